def fc4_readClause_62 (N : Nat) (l0 : Option Nat) (σ : Me) : Option (Int32 × Me) :=
  (dr σ l0 (.inl 4)).bind fun a =>
  (fc4_readSum N a (0 : Int32) σ).bind fun p64 =>
  if p64.1 = 0 then
    retZ (0 : Int32) p64.2
  else
    (dr p64.2 l0 (.inl 4)).bind fun a =>
    (fc4_write N a (-59 : Int32) p64.2).bind fun p73 =>
    if p73.1 = 0 then
      retZ (0 : Int32) p73.2
    else
      retZ (1 : Int32) p73.2
def fc4_readClause (N : Nat) (a0 : Nat) (σ : Me) : Option (Int32 × Me) :=
  (qR σ 4 0 (some a0)).bind fun v1 =>
  (dr σ v1 (.inl 10)).bind fun a =>
  (fc10_take N a (121 : Int32) σ).bind fun p6 =>
  if p6.1 = 0 then
    retZ (0 : Int32) p6.2
  else
    (qR p6.2 4 0 (some a0)).bind fun v13 =>
    (dr p6.2 v13 (.inl 10)).bind fun a =>
    (fc10_take N a (58 : Int32) p6.2).bind fun p18 =>
    if p18.1 = 0 then
      retZ (0 : Int32) p18.2
    else
      (dr p18.2 (some a0) (.inl 4)).bind fun a =>
      (fc4_isConditional N a p18.2).bind fun p27 =>
      if p27.1 = 0 then
        fc4_readClause_62 N (some a0) p27.2
      else
        (dr p27.2 (some a0) (.inl 4)).bind fun a =>
        (fc4_readCondition N a (0 : Int32) p27.2).bind fun p35 =>
        if p35.1 = 0 then
          retZ (0 : Int32) p35.2
        else
          (qR p35.2 4 0 (some a0)).bind fun v42 =>
          (dr p35.2 v42 (.inl 10)).bind fun a =>
          (fc10_take N a (63 : Int32) p35.2).bind fun p47 =>
          if p47.1 = 0 then
            retZ (0 : Int32) p47.2
          else
            (dr p47.2 (some a0) (.inl 4)).bind fun a =>
            (fc4_write N a (-63 : Int32) p47.2).bind fun p58 =>
            fc4_readClause_62 N (some a0) p58.2
set_option maxRecDepth 20000 in
set_option maxHeartbeats 2000000 in
theorem pc4_readClause_62 {Ω : Om} {Γ : Ga} {N : Nat} (hG : Good Ω Γ tc4_readClause 135 0 0) (l0 : Option Nat) (σ : Me) : Sim Ω Γ 0 0 ιI 1 62 [(0, vR l0)] [] σ 0 0 (fc4_readClause_62 N l0 σ) := by
  unfold fc4_readClause_62
  refine s_aload_n hG dc4_readClause_62 rfl ?_
  refine s_iconst (v := 0) hG dc4_readClause_63 (by decide) ?_
  refine s_callVi hG kMc4_60 (fun a => corc4_readSum N a _ _) ⟨by decide, rfl⟩ rfl (by first | decide | omega) dc4_readClause_64 rfl rfl (Nat.le_of_ble_eq_true rfl) ⟨Nat.le_of_ble_eq_true rfl, Nat.le_of_ble_eq_true rfl⟩ (fun p64 => ?_)
  refine s_if_eq hG 83 dc4_readClause_67 (by decide) ?_ ?_
  · refine s_iconst (v := 0) hG dc4_readClause_83 (by decide) ?_
    exact s_zret hG dc4_readClause_84 rfl (Nat.le_of_ble_eq_true rfl) (Nat.le_of_ble_eq_true rfl)
  · refine s_aload_n hG dc4_readClause_70 rfl ?_
    refine s_bipush (v := -59) hG dc4_readClause_71 (by decide) ?_
    refine s_callVi hG kMc4_57 (fun a => corc4_write N a _ _) ⟨by decide, rfl⟩ rfl (by first | decide | omega) dc4_readClause_73 rfl rfl (Nat.le_of_ble_eq_true rfl) ⟨Nat.le_of_ble_eq_true rfl, Nat.le_of_ble_eq_true rfl⟩ (fun p73 => ?_)
    refine s_if_eq hG 83 dc4_readClause_76 (by decide) ?_ ?_
    · refine s_iconst (v := 0) hG dc4_readClause_83 (by decide) ?_
      exact s_zret hG dc4_readClause_84 rfl (Nat.le_of_ble_eq_true rfl) (Nat.le_of_ble_eq_true rfl)
    · refine s_iconst (v := 1) hG dc4_readClause_79 (by decide) ?_
      refine s_goto hG 84 dc4_readClause_80 (by decide) ?_
      exact s_zret hG dc4_readClause_84 rfl (Nat.le_of_ble_eq_true rfl) (Nat.le_of_ble_eq_true rfl)
set_option maxRecDepth 20000 in
set_option maxHeartbeats 2000000 in
theorem corc4_readClause {Ω : Om} (N : Nat) (a0 : Nat) (σ : Me) : Cor Ω tc4_readClause 135 0 0 [vR (some a0)] σ ιI (fc4_readClause N a0 σ) := by
  refine Cor.of (by decide +kernel) (Nat.le_of_ble_eq_true rfl) (fun Γ hG => ?_)
  unfold fc4_readClause
  show Sim Ω Γ 0 0 ιI 1 0 [(0, vR (some a0))] [] σ 0 0 _
  refine s_aload_n hG dc4_readClause_0 rfl ?_
  refine s_getR hG kFc4_15 rfl dc4_readClause_1 (fun v1 => ?_)
  refine s_bipush (v := 121) hG dc4_readClause_4 (by decide) ?_
  refine s_callVi hG kMc4_47 (fun a => corc10_take N a _ _) ⟨by decide, rfl⟩ rfl (by first | decide | omega) dc4_readClause_6 rfl rfl (Nat.le_of_ble_eq_true rfl) ⟨Nat.le_of_ble_eq_true rfl, Nat.le_of_ble_eq_true rfl⟩ (fun p6 => ?_)
  refine s_if_eq hG 24 dc4_readClause_9 (by decide) ?_ ?_
  · refine s_iconst (v := 0) hG dc4_readClause_24 (by decide) ?_
    exact s_zret hG dc4_readClause_25 rfl (Nat.le_of_ble_eq_true rfl) (Nat.le_of_ble_eq_true rfl)
  · refine s_aload_n hG dc4_readClause_12 rfl ?_
    refine s_getR hG kFc4_15 rfl dc4_readClause_13 (fun v13 => ?_)
    refine s_bipush (v := 58) hG dc4_readClause_16 (by decide) ?_
    refine s_callVi hG kMc4_47 (fun a => corc10_take N a _ _) ⟨by decide, rfl⟩ rfl (by first | decide | omega) dc4_readClause_18 rfl rfl (Nat.le_of_ble_eq_true rfl) ⟨Nat.le_of_ble_eq_true rfl, Nat.le_of_ble_eq_true rfl⟩ (fun p18 => ?_)
    refine s_if_ne hG 26 dc4_readClause_21 (by decide) ?_ ?_
    · refine s_aload_n hG dc4_readClause_26 rfl ?_
      refine s_callVi hG kMc4_51 (fun a => corc4_isConditional N a _) ⟨by decide, rfl⟩ rfl (by first | decide | omega) dc4_readClause_27 rfl rfl (Nat.le_of_ble_eq_true rfl) ⟨Nat.le_of_ble_eq_true rfl, Nat.le_of_ble_eq_true rfl⟩ (fun p27 => ?_)
      refine s_if_eq hG 62 dc4_readClause_30 (by decide) ?_ ?_
      · exact s_lv (lc rfl ln) (pc4_readClause_62 hG _ _)
      · refine s_aload_n hG dc4_readClause_33 rfl ?_
        refine s_iconst (v := 0) hG dc4_readClause_34 (by decide) ?_
        refine s_callVi hG kMc4_54 (fun a => corc4_readCondition N a _ _) ⟨by decide, rfl⟩ rfl (by first | decide | omega) dc4_readClause_35 rfl rfl (Nat.le_of_ble_eq_true rfl) ⟨Nat.le_of_ble_eq_true rfl, Nat.le_of_ble_eq_true rfl⟩ (fun p35 => ?_)
        refine s_if_eq hG 53 dc4_readClause_38 (by decide) ?_ ?_
        · refine s_iconst (v := 0) hG dc4_readClause_53 (by decide) ?_
          exact s_zret hG dc4_readClause_54 rfl (Nat.le_of_ble_eq_true rfl) (Nat.le_of_ble_eq_true rfl)
        · refine s_aload_n hG dc4_readClause_41 rfl ?_
          refine s_getR hG kFc4_15 rfl dc4_readClause_42 (fun v42 => ?_)
          refine s_bipush (v := 63) hG dc4_readClause_45 (by decide) ?_
          refine s_callVi hG kMc4_47 (fun a => corc10_take N a _ _) ⟨by decide, rfl⟩ rfl (by first | decide | omega) dc4_readClause_47 rfl rfl (Nat.le_of_ble_eq_true rfl) ⟨Nat.le_of_ble_eq_true rfl, Nat.le_of_ble_eq_true rfl⟩ (fun p47 => ?_)
          refine s_if_ne hG 55 dc4_readClause_50 (by decide) ?_ ?_
          · refine s_aload_n hG dc4_readClause_55 rfl ?_
            refine s_bipush (v := -63) hG dc4_readClause_56 (by decide) ?_
            refine s_callVi hG kMc4_57 (fun a => corc4_write N a _ _) ⟨by decide, rfl⟩ rfl (by first | decide | omega) dc4_readClause_58 rfl rfl (Nat.le_of_ble_eq_true rfl) ⟨Nat.le_of_ble_eq_true rfl, Nat.le_of_ble_eq_true rfl⟩ (fun p58 => ?_)
            refine s_pop hG dc4_readClause_61 rfl ?_
            exact s_lv (lc rfl ln) (pc4_readClause_62 hG _ _)
          · refine s_iconst (v := 0) hG dc4_readClause_53 (by decide) ?_
            exact s_zret hG dc4_readClause_54 rfl (Nat.le_of_ble_eq_true rfl) (Nat.le_of_ble_eq_true rfl)
    · refine s_iconst (v := 0) hG dc4_readClause_24 (by decide) ?_
      exact s_zret hG dc4_readClause_25 rfl (Nat.le_of_ble_eq_true rfl) (Nat.le_of_ble_eq_true rfl)
def fc4_read_15 (N : Nat) : Nat → Option Nat → Int32 → Me → Option (Int32 × Me)
  | 0, _, _, _ => none
  | n + 1, l0, l1, σ =>
    if (240 : Int32) < l1 then
      retZ (0 : Int32) σ
    else
      (dr σ l0 (.inl 4)).bind fun a =>
      (fc4_readClause N a σ).bind fun p23 =>
      if p23.1 = 0 then
        retZ (0 : Int32) p23.2
      else
        (qR p23.2 4 0 l0).bind fun v32 =>
        (dr p23.2 v32 (.inl 10)).bind fun a =>
        (fc10_next N a p23.2).bind fun p35 =>
        if p35.1 = 0 then
          retZ (1 : Int32) p35.2
        else
          (qR p35.2 4 0 l0).bind fun v44 =>
          (dr p35.2 v44 (.inl 10)).bind fun a =>
          (fc10_take N a (59 : Int32) p35.2).bind fun p49 =>
          if p49.1 = 0 then
            retZ (0 : Int32) p49.2
          else
            (fc4_read_15 N n) l0 (l1 + (1 : Int32)) p49.2
def fc4_read (N : Nat) (a0 : Nat) (σ : Me) : Option (Int32 × Me) :=
  (qR σ 4 0 (some a0)).bind fun v1 =>
  (pI σ 10 2 v1 (0 : Int32)).bind fun σ5 =>
  (pI σ5 4 2 (some a0) (0 : Int32)).bind fun σ10 =>
  fc4_read_15 N N (some a0) (0 : Int32) σ10
set_option maxRecDepth 20000 in
set_option maxHeartbeats 2000000 in
theorem pc4_read_15 {Ω : Om} {Γ : Ga} {N : Nat} (hG : Good Ω Γ tc4_read 136 0 0)  : ∀ (n : Nat) (l0 : Option Nat) (l1 : Int32) (σ : Me), Sim Ω Γ 0 0 ιI 2 15 [(0, vR l0), (1, vI l1)] [] σ 0 0 (fc4_read_15 N n l0 l1 σ) := by
  intro n
  induction n with
  | zero => intros; exact s_none
  | succ n ih =>
    intro l0 l1 σ
    unfold fc4_read_15
    refine s_iload_n hG dc4_read_15 rfl ?_
    refine s_sipush (v := 240) hG dc4_read_16 (by decide) ?_
    refine s_icmp_gt hG 63 dc4_read_19 (by decide) ?_ ?_
    · refine s_iconst (v := 0) hG dc4_read_63 (by decide) ?_
      exact s_zret hG dc4_read_64 rfl (Nat.le_of_ble_eq_true rfl) (Nat.le_of_ble_eq_true rfl)
    · refine s_aload_n hG dc4_read_22 rfl ?_
      refine s_callVi hG kMc4_39 (fun a => corc4_readClause N a _) ⟨by decide, rfl⟩ rfl (by first | decide | omega) dc4_read_23 rfl rfl (Nat.le_of_ble_eq_true rfl) ⟨Nat.le_of_ble_eq_true rfl, Nat.le_of_ble_eq_true rfl⟩ (fun p23 => ?_)
      refine s_if_ne hG 31 dc4_read_26 (by decide) ?_ ?_
      · refine s_aload_n hG dc4_read_31 rfl ?_
        refine s_getR hG kFc4_15 rfl dc4_read_32 (fun v32 => ?_)
        refine s_callVi hG kMc4_43 (fun a => corc10_next N a _) ⟨by decide, rfl⟩ rfl (by first | decide | omega) dc4_read_35 rfl rfl (Nat.le_of_ble_eq_true rfl) ⟨Nat.le_of_ble_eq_true rfl, Nat.le_of_ble_eq_true rfl⟩ (fun p35 => ?_)
        refine s_if_ne hG 43 dc4_read_38 (by decide) ?_ ?_
        · refine s_aload_n hG dc4_read_43 rfl ?_
          refine s_getR hG kFc4_15 rfl dc4_read_44 (fun v44 => ?_)
          refine s_bipush (v := 59) hG dc4_read_47 (by decide) ?_
          refine s_callVi hG kMc4_47 (fun a => corc10_take N a _ _) ⟨by decide, rfl⟩ rfl (by first | decide | omega) dc4_read_49 rfl rfl (Nat.le_of_ble_eq_true rfl) ⟨Nat.le_of_ble_eq_true rfl, Nat.le_of_ble_eq_true rfl⟩ (fun p49 => ?_)
          refine s_if_ne hG 57 dc4_read_52 (by decide) ?_ ?_
          · refine s_iinc (v := 1) hG dc4_read_57 rfl (by decide) (by decide) ?_
            refine s_goto hG 15 dc4_read_60 (by decide) ?_
            exact s_lv (lc rfl (lc rfl ln)) (ih _ _ _)
          · refine s_iconst (v := 0) hG dc4_read_55 (by decide) ?_
            exact s_zret hG dc4_read_56 rfl (Nat.le_of_ble_eq_true rfl) (Nat.le_of_ble_eq_true rfl)
        · refine s_iconst (v := 1) hG dc4_read_41 (by decide) ?_
          exact s_zret hG dc4_read_42 rfl (Nat.le_of_ble_eq_true rfl) (Nat.le_of_ble_eq_true rfl)
      · refine s_iconst (v := 0) hG dc4_read_29 (by decide) ?_
        exact s_zret hG dc4_read_30 rfl (Nat.le_of_ble_eq_true rfl) (Nat.le_of_ble_eq_true rfl)
set_option maxRecDepth 20000 in
set_option maxHeartbeats 2000000 in
theorem corc4_read {Ω : Om} (N : Nat) (a0 : Nat) (σ : Me) : Cor Ω tc4_read 136 0 0 [vR (some a0)] σ ιI (fc4_read N a0 σ) := by
  refine Cor.of (by decide +kernel) (Nat.le_of_ble_eq_true rfl) (fun Γ hG => ?_)
  unfold fc4_read
  show Sim Ω Γ 0 0 ιI 2 0 [(0, vR (some a0))] [] σ 0 0 _
  refine s_aload_n hG dc4_read_0 rfl ?_
  refine s_getR hG kFc4_15 rfl dc4_read_1 (fun v1 => ?_)
  refine s_iconst (v := 0) hG dc4_read_4 (by decide) ?_
  refine s_putI (fin := false) hG kFc4_34 rfl (fun h => by cases h) rfl (fun _ => rfl) (fun _ => rfl) dc4_read_5 (fun σ5 => ?_)
  refine s_aload_n hG dc4_read_8 rfl ?_
  refine s_iconst (v := 0) hG dc4_read_9 (by decide) ?_
  refine s_putI (fin := false) hG kFc4_21 rfl (fun h => by cases h) rfl (fun _ => rfl) (fun _ => rfl) dc4_read_10 (fun σ10 => ?_)
  refine s_iconst (v := 0) hG dc4_read_13 (by decide) ?_
  refine s_istore_n hG dc4_read_14 (by decide) ?_
  exact s_lv (lc rfl (lc rfl ln)) (pc4_read_15 hG _ _ _ _)
def fc6_readItems_61 (N : Nat)  (σ : Me) : Option (Int32 × Me) :=
  retZ (1 : Int32) σ
def fc6_readItems_49 (N : Nat) (l6 : Int32) (σ : Me) : Option (Int32 × Me) :=
  if l6 = (59 : Int32) then
    fc6_readItems_61 N  σ
  else
    if l6 = 0 then
      fc6_readItems_61 N  σ
    else
      retZ (0 : Int32) σ
def fc6_readItems_145 (N : Nat) (l0 : Option Nat) (σ : Me) : Option (Int32 × Me) :=
  (qR σ 6 0 l0).bind fun v146 =>
  (qI σ 10 2 v146).bind fun v150 =>
  (pI σ 10 2 v146 (v150 - (1 : Int32))).bind fun σ155 =>
  retZ (0 : Int32) σ155
def fc6_readItems_6 (N : Nat) : Nat → Option Nat → Option Nat → Option Nat → Option Nat → Int32 → Int32 → Me → Option (Int32 × Me)
  | 0, _, _, _, _, _, _, _ => none
  | n + 1, l0, l1, l2, l3, l4, l5, σ =>
    (drS l1).bind fun a =>
    (fSr_length N a σ).bind fun p9 =>
    if p9.1 < l5 then
      retZ (0 : Int32) p9.2
    else
      (qR p9.2 6 0 l0).bind fun v16 =>
      (dr p9.2 v16 (.inl 10)).bind fun a =>
      (fc10_next N a p9.2).bind fun p19 =>
      (drS l1).bind fun a =>
      (fSr_indexOf N a (UInt32.toInt32 (Int32.toUInt32 p19.1 % 65536)) p19.2).bind fun p28 =>
      if p28.1 < 0 then
        fc6_readItems_49 N p19.1 p28.2
      else
        if ((l4 >>> (p28.1 &&& 31)) &&& (1 : Int32)) = (1 : Int32) then
          fc6_readItems_49 N p19.1 p28.2
        else
          (qR p28.2 6 0 l0).bind fun v77 =>
          (qI p28.2 10 2 v77).bind fun v81 =>
          (pI p28.2 10 2 v77 (v81 + (1 : Int32))).bind fun σ86 =>
          (qR σ86 6 1 l0).bind fun v90 =>
          (qR σ86 6 0 l0).bind fun v96 =>
          (dr σ86 v96 (.inl 10)).bind fun a =>
          (fc10_number N a (2 : Int32) σ86).bind fun p100 =>
          (stI p100.2 v90 p28.1 p100.1).bind fun σ103 =>
          (qR σ103 6 1 l0).bind fun v105 =>
          (ldI σ103 v105 p28.1).bind fun v110 =>
          if v110 = (-1 : Int32) then
            retZ (0 : Int32) σ103
          else
            (qR σ103 6 1 l0).bind fun v118 =>
            (ldI σ103 v118 p28.1).bind fun v123 =>
            (ldI σ103 l2 p28.1).bind fun v127 =>
            if v123 < v127 then
              fc6_readItems_145 N l0 σ103
            else
              (qR σ103 6 1 l0).bind fun v132 =>
              (ldI σ103 v132 p28.1).bind fun v137 =>
              (ldI σ103 l3 p28.1).bind fun v141 =>
              if v137 ≤ v141 then
                (fc6_readItems_6 N n) l0 l1 l2 l3 (l4 ||| ((1 : Int32) <<< (p28.1 &&& 31))) (l5 + (1 : Int32)) σ103
              else
                fc6_readItems_145 N l0 σ103
def fc6_readItems (N : Nat) (a0 : Nat) (x1 : Option Nat) (x2 : Option Nat) (x3 : Option Nat) (σ : Me) : Option (Int32 × Me) :=
  fc6_readItems_6 N N (some a0) x1 x2 x3 (0 : Int32) (0 : Int32) σ
set_option maxRecDepth 20000 in
set_option maxHeartbeats 2000000 in
theorem pc6_readItems_61 {Ω : Om} {Γ : Ga} {N : Nat} (hG : Good Ω Γ tc6_readItems 5 0 0)  (σ : Me) : Sim Ω Γ 0 0 ιI 8 61 [] [] σ 0 0 (fc6_readItems_61 N  σ) := by
  unfold fc6_readItems_61
  refine s_iconst (v := 1) hG dc6_readItems_61 (by decide) ?_
  refine s_goto hG 66 dc6_readItems_62 (by decide) ?_
  exact s_zret hG dc6_readItems_66 rfl (Nat.le_of_ble_eq_true rfl) (Nat.le_of_ble_eq_true rfl)
set_option maxRecDepth 20000 in
set_option maxHeartbeats 2000000 in
theorem pc6_readItems_49 {Ω : Om} {Γ : Ga} {N : Nat} (hG : Good Ω Γ tc6_readItems 5 0 0) (l6 : Int32) (σ : Me) : Sim Ω Γ 0 0 ιI 8 49 [(6, vI l6)] [] σ 0 0 (fc6_readItems_49 N l6 σ) := by
  unfold fc6_readItems_49
  refine s_iload hG dc6_readItems_49 rfl ?_
  refine s_bipush (v := 59) hG dc6_readItems_51 (by decide) ?_
  refine s_icmp_eq hG 61 dc6_readItems_53 (by decide) ?_ ?_
  · exact s_lv ln (pc6_readItems_61 hG _)
  · refine s_iload hG dc6_readItems_56 rfl ?_
    refine s_if_ne hG 65 dc6_readItems_58 (by decide) ?_ ?_
    · refine s_iconst (v := 0) hG dc6_readItems_65 (by decide) ?_
      exact s_zret hG dc6_readItems_66 rfl (Nat.le_of_ble_eq_true rfl) (Nat.le_of_ble_eq_true rfl)
    · exact s_lv ln (pc6_readItems_61 hG _)
set_option maxRecDepth 20000 in
set_option maxHeartbeats 2000000 in
theorem pc6_readItems_145 {Ω : Om} {Γ : Ga} {N : Nat} (hG : Good Ω Γ tc6_readItems 5 0 0) (l0 : Option Nat) (σ : Me) : Sim Ω Γ 0 0 ιI 8 145 [(0, vR l0)] [] σ 0 0 (fc6_readItems_145 N l0 σ) := by
  unfold fc6_readItems_145
  refine s_aload_n hG dc6_readItems_145 rfl ?_
  refine s_getR hG kFc6_25 rfl dc6_readItems_146 (fun v146 => ?_)
  refine s_dup hG dc6_readItems_149 rfl ?_
  refine s_getI hG kFc6_29 rfl dc6_readItems_150 (fun v150 => ?_)
  refine s_iconst (v := 1) hG dc6_readItems_153 (by decide) ?_
  refine s_isub hG dc6_readItems_154 ?_
  refine s_putI (fin := false) hG kFc6_29 rfl (fun h => by cases h) rfl (fun _ => rfl) (fun _ => rfl) dc6_readItems_155 (fun σ155 => ?_)
  refine s_iconst (v := 0) hG dc6_readItems_158 (by decide) ?_
  exact s_zret hG dc6_readItems_159 rfl (Nat.le_of_ble_eq_true rfl) (Nat.le_of_ble_eq_true rfl)
set_option maxRecDepth 20000 in
set_option maxHeartbeats 2000000 in
theorem pc6_readItems_6 {Ω : Om} {Γ : Ga} {N : Nat} (hG : Good Ω Γ tc6_readItems 5 0 0)  : ∀ (n : Nat) (l0 : Option Nat) (l1 : Option Nat) (l2 : Option Nat) (l3 : Option Nat) (l4 : Int32) (l5 : Int32) (σ : Me), Sim Ω Γ 0 0 ιI 8 6 [(0, vR l0), (1, vR l1), (2, vR l2), (3, vR l3), (4, vI l4), (5, vI l5)] [] σ 0 0 (fc6_readItems_6 N n l0 l1 l2 l3 l4 l5 σ) := by
  intro n
  induction n with
  | zero => intros; exact s_none
  | succ n ih =>
    intro l0 l1 l2 l3 l4 l5 σ
    unfold fc6_readItems_6
    refine s_iload hG dc6_readItems_6 rfl ?_
    refine s_aload_n hG dc6_readItems_8 rfl ?_
    refine s_callTi hG kMc6_126 (fun a => corSr_length N a _) rfl rfl (by first | decide | omega) dc6_readItems_9 rfl rfl (Nat.le_of_ble_eq_true rfl) ⟨Nat.le_of_ble_eq_true rfl, Nat.le_of_ble_eq_true rfl⟩ (fun p9 => ?_)
    refine s_icmp_gt hG 166 dc6_readItems_12 (by decide) ?_ ?_
    · refine s_iconst (v := 0) hG dc6_readItems_166 (by decide) ?_
      exact s_zret hG dc6_readItems_167 rfl (Nat.le_of_ble_eq_true rfl) (Nat.le_of_ble_eq_true rfl)
    · refine s_aload_n hG dc6_readItems_15 rfl ?_
      refine s_getR hG kFc6_25 rfl dc6_readItems_16 (fun v16 => ?_)
      refine s_callVi hG kMc6_59 (fun a => corc10_next N a _) ⟨by decide, rfl⟩ rfl (by first | decide | omega) dc6_readItems_19 rfl rfl (Nat.le_of_ble_eq_true rfl) ⟨Nat.le_of_ble_eq_true rfl, Nat.le_of_ble_eq_true rfl⟩ (fun p19 => ?_)
      refine s_istore hG dc6_readItems_22 (by decide) ?_
      refine s_aload_n hG dc6_readItems_24 rfl ?_
      refine s_iload hG dc6_readItems_25 rfl ?_
      refine s_i2c hG dc6_readItems_27 ?_
      refine s_callTi hG kMc6_131 (fun a => corSr_indexOf N a _ _) rfl rfl (by first | decide | omega) dc6_readItems_28 rfl rfl (Nat.le_of_ble_eq_true rfl) ⟨Nat.le_of_ble_eq_true rfl, Nat.le_of_ble_eq_true rfl⟩ (fun p28 => ?_)
      refine s_istore hG dc6_readItems_31 (by decide) ?_
      refine s_iload hG dc6_readItems_33 rfl ?_
      refine s_if_lt hG 49 dc6_readItems_35 (by decide) ?_ ?_
      · exact s_lv (lc rfl ln) (pc6_readItems_49 hG _ _)
      · refine s_iload hG dc6_readItems_38 rfl ?_
        refine s_iload hG dc6_readItems_40 rfl ?_
        refine s_ishr hG dc6_readItems_42 ?_
        refine s_iconst (v := 1) hG dc6_readItems_43 (by decide) ?_
        refine s_iand hG dc6_readItems_44 ?_
        refine s_iconst (v := 1) hG dc6_readItems_45 (by decide) ?_
        refine s_icmp_ne hG 67 dc6_readItems_46 (by decide) ?_ ?_
        · refine s_iload hG dc6_readItems_67 rfl ?_
          refine s_iconst (v := 1) hG dc6_readItems_69 (by decide) ?_
          refine s_iload hG dc6_readItems_70 rfl ?_
          refine s_ishl hG dc6_readItems_72 ?_
          refine s_ior hG dc6_readItems_73 ?_
          refine s_istore hG dc6_readItems_74 (by decide) ?_
          refine s_aload_n hG dc6_readItems_76 rfl ?_
          refine s_getR hG kFc6_25 rfl dc6_readItems_77 (fun v77 => ?_)
          refine s_dup hG dc6_readItems_80 rfl ?_
          refine s_getI hG kFc6_29 rfl dc6_readItems_81 (fun v81 => ?_)
          refine s_iconst (v := 1) hG dc6_readItems_84 (by decide) ?_
          refine s_iadd hG dc6_readItems_85 ?_
          refine s_putI (fin := false) hG kFc6_29 rfl (fun h => by cases h) rfl (fun _ => rfl) (fun _ => rfl) dc6_readItems_86 (fun σ86 => ?_)
          refine s_aload_n hG dc6_readItems_89 rfl ?_
          refine s_getR hG kFc6_15 rfl dc6_readItems_90 (fun v90 => ?_)
          refine s_iload hG dc6_readItems_93 rfl ?_
          refine s_aload_n hG dc6_readItems_95 rfl ?_
          refine s_getR hG kFc6_25 rfl dc6_readItems_96 (fun v96 => ?_)
          refine s_iconst (v := 2) hG dc6_readItems_99 (by decide) ?_
          refine s_callVi hG kMc6_135 (fun a => corc10_number N a _ _) ⟨by decide, rfl⟩ rfl (by first | decide | omega) dc6_readItems_100 rfl rfl (Nat.le_of_ble_eq_true rfl) ⟨Nat.le_of_ble_eq_true rfl, Nat.le_of_ble_eq_true rfl⟩ (fun p100 => ?_)
          refine s_iast hG dc6_readItems_103 (fun σ103 => ?_)
          refine s_aload_n hG dc6_readItems_104 rfl ?_
          refine s_getR hG kFc6_15 rfl dc6_readItems_105 (fun v105 => ?_)
          refine s_iload hG dc6_readItems_108 rfl ?_
          refine s_iald hG dc6_readItems_110 (fun v110 => ?_)
          refine s_iconst (v := -1) hG dc6_readItems_111 (by decide) ?_
          refine s_icmp_ne hG 117 dc6_readItems_112 (by decide) ?_ ?_
          · refine s_aload_n hG dc6_readItems_117 rfl ?_
            refine s_getR hG kFc6_15 rfl dc6_readItems_118 (fun v118 => ?_)
            refine s_iload hG dc6_readItems_121 rfl ?_
            refine s_iald hG dc6_readItems_123 (fun v123 => ?_)
            refine s_aload_n hG dc6_readItems_124 rfl ?_
            refine s_iload hG dc6_readItems_125 rfl ?_
            refine s_iald hG dc6_readItems_127 (fun v127 => ?_)
            refine s_icmp_lt hG 145 dc6_readItems_128 (by decide) ?_ ?_
            · exact s_lv (lc rfl ln) (pc6_readItems_145 hG _ _)
            · refine s_aload_n hG dc6_readItems_131 rfl ?_
              refine s_getR hG kFc6_15 rfl dc6_readItems_132 (fun v132 => ?_)
              refine s_iload hG dc6_readItems_135 rfl ?_
              refine s_iald hG dc6_readItems_137 (fun v137 => ?_)
              refine s_aload_n hG dc6_readItems_138 rfl ?_
              refine s_iload hG dc6_readItems_139 rfl ?_
              refine s_iald hG dc6_readItems_141 (fun v141 => ?_)
              refine s_icmp_le hG 160 dc6_readItems_142 (by decide) ?_ ?_
              · refine s_iinc (v := 1) hG dc6_readItems_160 rfl (by decide) (by decide) ?_
                refine s_goto hG 6 dc6_readItems_163 (by decide) ?_
                exact s_lv (lc rfl (lc rfl (lc rfl (lc rfl (lc rfl (lc rfl ln)))))) (ih _ _ _ _ _ _ _)
              · exact s_lv (lc rfl ln) (pc6_readItems_145 hG _ _)
          · refine s_iconst (v := 0) hG dc6_readItems_115 (by decide) ?_
            exact s_zret hG dc6_readItems_116 rfl (Nat.le_of_ble_eq_true rfl) (Nat.le_of_ble_eq_true rfl)
        · exact s_lv (lc rfl ln) (pc6_readItems_49 hG _ _)
set_option maxRecDepth 20000 in
set_option maxHeartbeats 2000000 in
theorem corc6_readItems {Ω : Om} (N : Nat) (a0 : Nat) (x1 : Option Nat) (x2 : Option Nat) (x3 : Option Nat) (σ : Me) : Cor Ω tc6_readItems 5 0 0 [vR (some a0), vR x1, vR x2, vR x3] σ ιI (fc6_readItems N a0 x1 x2 x3 σ) := by
  refine Cor.of (by decide +kernel) (Nat.le_of_ble_eq_true rfl) (fun Γ hG => ?_)
  unfold fc6_readItems
  show Sim Ω Γ 0 0 ιI 8 0 [(0, vR (some a0)), (1, vR x1), (2, vR x2), (3, vR x3)] [] σ 0 0 _
  refine s_iconst (v := 0) hG dc6_readItems_0 (by decide) ?_
  refine s_istore hG dc6_readItems_1 (by decide) ?_
  refine s_iconst (v := 0) hG dc6_readItems_3 (by decide) ?_
  refine s_istore hG dc6_readItems_4 (by decide) ?_
  exact s_lv (lc rfl (lc rfl (lc rfl (lc rfl (lc rfl (lc rfl ln)))))) (pc6_readItems_6 hG _ _ _ _ _ _ _ _)
def fc6_setWithout (N : Nat) (a0 : Nat) (x1 : Option Nat) (σ : Me) : Option (Unit × Me) :=
  (qR σ 6 1 (some a0)).bind fun v3 =>
  (aLn σ .int x1).bind fun v8 =>
  (qR σ 6 1 (some a0)).bind fun v10 =>
  (aLn σ .int v10).bind fun v13 =>
  (fMt_min N v8 v13 σ).bind fun p14 =>
  (cpI p14.2 x1 (0 : Int32) v3 (0 : Int32) p14.1).bind fun σ17 =>
  some ((), σ17)
set_option maxRecDepth 20000 in
set_option maxHeartbeats 2000000 in
theorem corc6_setWithout {Ω : Om} (N : Nat) (a0 : Nat) (x1 : Option Nat) (σ : Me) : Cor Ω tc6_setWithout 2 0 0 [vR (some a0), vR x1] σ ιV (fc6_setWithout N a0 x1 σ) := by
  refine Cor.of (by decide +kernel) (Nat.le_of_ble_eq_true rfl) (fun Γ hG => ?_)
  unfold fc6_setWithout
  show Sim Ω Γ 0 0 ιV 2 0 [(0, vR (some a0)), (1, vR x1)] [] σ 0 0 _
  refine s_aload_n hG dc6_setWithout_0 rfl ?_
  refine s_iconst (v := 0) hG dc6_setWithout_1 (by decide) ?_
  refine s_aload_n hG dc6_setWithout_2 rfl ?_
  refine s_getR hG kFc6_15 rfl dc6_setWithout_3 (fun v3 => ?_)
  refine s_iconst (v := 0) hG dc6_setWithout_6 (by decide) ?_
  refine s_aload_n hG dc6_setWithout_7 rfl ?_
  refine s_alen hG 0 rfl dc6_setWithout_8 (fun v8 => ?_)
  refine s_aload_n hG dc6_setWithout_9 rfl ?_
  refine s_getR hG kFc6_15 rfl dc6_setWithout_10 (fun v10 => ?_)
  refine s_alen hG 0 rfl dc6_setWithout_13 (fun v13 => ?_)
  refine s_callSi hG kMc6_90 (corMt_min N _ _ _) rfl (by first | decide | omega) dc6_setWithout_14 rfl rfl (Nat.le_of_ble_eq_true rfl) ⟨Nat.le_of_ble_eq_true rfl, Nat.le_of_ble_eq_true rfl⟩ (fun p14 => ?_)
  refine s_copy hG kYc6_96 rfl (by decide) dc6_setWithout_17 (Nat.le_of_ble_eq_true rfl) (fun σ17 => ?_)
  exact s_vret hG dc6_setWithout_20 rfl (Nat.le_of_ble_eq_true rfl) (Nat.le_of_ble_eq_true rfl)
def fc6_takeField (N : Nat) (a0 : Nat) (σ : Me) : Option (Unit × Me) :=
  (qR σ 6 3 (some a0)).bind fun v1 =>
  (qR σ 2 0 v1).bind fun v4 =>
  (qR σ 6 3 (some a0)).bind fun v8 =>
  (qI σ 2 5 v8).bind fun v11 =>
  (qR σ 6 1 (some a0)).bind fun v15 =>
  (ldI σ v15 (0 : Int32)).bind fun v19 =>
  (stI σ v4 v11 v19).bind fun σ20 =>
  (qR σ20 6 3 (some a0)).bind fun v22 =>
  (qR σ20 2 1 v22).bind fun v25 =>
  (qR σ20 6 3 (some a0)).bind fun v29 =>
  (qI σ20 2 5 v29).bind fun v32 =>
  (qR σ20 6 1 (some a0)).bind fun v36 =>
  (ldI σ20 v36 (1 : Int32)).bind fun v40 =>
  (stI σ20 v25 v32 v40).bind fun σ41 =>
  (qR σ41 6 3 (some a0)).bind fun v43 =>
  (qR σ41 2 2 v43).bind fun v46 =>
  (qR σ41 6 3 (some a0)).bind fun v50 =>
  (qI σ41 2 5 v50).bind fun v53 =>
  (qR σ41 6 1 (some a0)).bind fun v57 =>
  (ldI σ41 v57 (2 : Int32)).bind fun v61 =>
  (stI σ41 v46 v53 v61).bind fun σ62 =>
  (qR σ62 6 3 (some a0)).bind fun v64 =>
  (qR σ62 2 3 v64).bind fun v67 =>
  (qR σ62 6 3 (some a0)).bind fun v71 =>
  (qI σ62 2 5 v71).bind fun v74 =>
  (qR σ62 6 1 (some a0)).bind fun v78 =>
  (ldI σ62 v78 (3 : Int32)).bind fun v82 =>
  (stI σ62 v67 v74 v82).bind fun σ83 =>
  (qR σ83 6 3 (some a0)).bind fun v85 =>
  (qR σ83 2 4 v85).bind fun v88 =>
  (qR σ83 6 3 (some a0)).bind fun v92 =>
  (qI σ83 2 5 v92).bind fun v95 =>
  (qR σ83 6 1 (some a0)).bind fun v99 =>
  (ldI σ83 v99 (4 : Int32)).bind fun v103 =>
  (stI σ83 v88 v95 v103).bind fun σ104 =>
  (qR σ104 6 3 (some a0)).bind fun v106 =>
  (qI σ104 2 5 v106).bind fun v110 =>
  (pI σ104 2 5 v106 (v110 + (1 : Int32))).bind fun σ115 =>
  some ((), σ115)
set_option maxRecDepth 20000 in
set_option maxHeartbeats 2000000 in
theorem corc6_takeField {Ω : Om} (N : Nat) (a0 : Nat) (σ : Me) : Cor Ω tc6_takeField 1 0 0 [vR (some a0)] σ ιV (fc6_takeField N a0 σ) := by
  refine Cor.of (by decide +kernel) (Nat.le_of_ble_eq_true rfl) (fun Γ hG => ?_)
  unfold fc6_takeField
  show Sim Ω Γ 0 0 ιV 1 0 [(0, vR (some a0))] [] σ 0 0 _
  refine s_aload_n hG dc6_takeField_0 rfl ?_
  refine s_getR hG kFc6_21 rfl dc6_takeField_1 (fun v1 => ?_)
  refine s_getR hG kFc6_111 rfl dc6_takeField_4 (fun v4 => ?_)
  refine s_aload_n hG dc6_takeField_7 rfl ?_
  refine s_getR hG kFc6_21 rfl dc6_takeField_8 (fun v8 => ?_)
  refine s_getI hG kFc6_39 rfl dc6_takeField_11 (fun v11 => ?_)
  refine s_aload_n hG dc6_takeField_14 rfl ?_
  refine s_getR hG kFc6_15 rfl dc6_takeField_15 (fun v15 => ?_)
  refine s_iconst (v := 0) hG dc6_takeField_18 (by decide) ?_
  refine s_iald hG dc6_takeField_19 (fun v19 => ?_)
  refine s_iast hG dc6_takeField_20 (fun σ20 => ?_)
  refine s_aload_n hG dc6_takeField_21 rfl ?_
  refine s_getR hG kFc6_21 rfl dc6_takeField_22 (fun v22 => ?_)
  refine s_getR hG kFc6_114 rfl dc6_takeField_25 (fun v25 => ?_)
  refine s_aload_n hG dc6_takeField_28 rfl ?_
  refine s_getR hG kFc6_21 rfl dc6_takeField_29 (fun v29 => ?_)
  refine s_getI hG kFc6_39 rfl dc6_takeField_32 (fun v32 => ?_)
  refine s_aload_n hG dc6_takeField_35 rfl ?_
  refine s_getR hG kFc6_15 rfl dc6_takeField_36 (fun v36 => ?_)
  refine s_iconst (v := 1) hG dc6_takeField_39 (by decide) ?_
  refine s_iald hG dc6_takeField_40 (fun v40 => ?_)
  refine s_iast hG dc6_takeField_41 (fun σ41 => ?_)
  refine s_aload_n hG dc6_takeField_42 rfl ?_
  refine s_getR hG kFc6_21 rfl dc6_takeField_43 (fun v43 => ?_)
  refine s_getR hG kFc6_117 rfl dc6_takeField_46 (fun v46 => ?_)
  refine s_aload_n hG dc6_takeField_49 rfl ?_
  refine s_getR hG kFc6_21 rfl dc6_takeField_50 (fun v50 => ?_)
  refine s_getI hG kFc6_39 rfl dc6_takeField_53 (fun v53 => ?_)
  refine s_aload_n hG dc6_takeField_56 rfl ?_
  refine s_getR hG kFc6_15 rfl dc6_takeField_57 (fun v57 => ?_)
  refine s_iconst (v := 2) hG dc6_takeField_60 (by decide) ?_
  refine s_iald hG dc6_takeField_61 (fun v61 => ?_)
  refine s_iast hG dc6_takeField_62 (fun σ62 => ?_)
  refine s_aload_n hG dc6_takeField_63 rfl ?_
  refine s_getR hG kFc6_21 rfl dc6_takeField_64 (fun v64 => ?_)
  refine s_getR hG kFc6_120 rfl dc6_takeField_67 (fun v67 => ?_)
  refine s_aload_n hG dc6_takeField_70 rfl ?_
  refine s_getR hG kFc6_21 rfl dc6_takeField_71 (fun v71 => ?_)
  refine s_getI hG kFc6_39 rfl dc6_takeField_74 (fun v74 => ?_)
  refine s_aload_n hG dc6_takeField_77 rfl ?_
  refine s_getR hG kFc6_15 rfl dc6_takeField_78 (fun v78 => ?_)
  refine s_iconst (v := 3) hG dc6_takeField_81 (by decide) ?_
  refine s_iald hG dc6_takeField_82 (fun v82 => ?_)
  refine s_iast hG dc6_takeField_83 (fun σ83 => ?_)
  refine s_aload_n hG dc6_takeField_84 rfl ?_
  refine s_getR hG kFc6_21 rfl dc6_takeField_85 (fun v85 => ?_)
  refine s_getR hG kFc6_123 rfl dc6_takeField_88 (fun v88 => ?_)
  refine s_aload_n hG dc6_takeField_91 rfl ?_
  refine s_getR hG kFc6_21 rfl dc6_takeField_92 (fun v92 => ?_)
  refine s_getI hG kFc6_39 rfl dc6_takeField_95 (fun v95 => ?_)
  refine s_aload_n hG dc6_takeField_98 rfl ?_
  refine s_getR hG kFc6_15 rfl dc6_takeField_99 (fun v99 => ?_)
  refine s_iconst (v := 4) hG dc6_takeField_102 (by decide) ?_
  refine s_iald hG dc6_takeField_103 (fun v103 => ?_)
  refine s_iast hG dc6_takeField_104 (fun σ104 => ?_)
  refine s_aload_n hG dc6_takeField_105 rfl ?_
  refine s_getR hG kFc6_21 rfl dc6_takeField_106 (fun v106 => ?_)
  refine s_dup hG dc6_takeField_109 rfl ?_
  refine s_getI hG kFc6_39 rfl dc6_takeField_110 (fun v110 => ?_)
  refine s_iconst (v := 1) hG dc6_takeField_113 (by decide) ?_
  refine s_iadd hG dc6_takeField_114 ?_
  refine s_putI (fin := false) hG kFc6_39 rfl (fun h => by cases h) rfl (fun _ => rfl) (fun _ => rfl) dc6_takeField_115 (fun σ115 => ?_)
  exact s_vret hG dc6_takeField_118 rfl (Nat.le_of_ble_eq_true rfl) (Nat.le_of_ble_eq_true rfl)
def fc6_takeRules (N : Nat) (a0 : Nat) (σ : Me) : Option (Unit × Me) :=
  (qR σ 6 3 (some a0)).bind fun v1 =>
  (qR σ 6 1 (some a0)).bind fun v5 =>
  (ldI σ v5 (0 : Int32)).bind fun v9 =>
  (pI σ 2 6 v1 v9).bind fun σ10 =>
  (qR σ10 6 3 (some a0)).bind fun v14 =>
  (qR σ10 6 1 (some a0)).bind fun v18 =>
  (ldI σ10 v18 (1 : Int32)).bind fun v22 =>
  (pI σ10 2 7 v14 v22).bind fun σ23 =>
  (qR σ23 6 3 (some a0)).bind fun v27 =>
  (qR σ23 6 1 (some a0)).bind fun v31 =>
  (ldI σ23 v31 (2 : Int32)).bind fun v35 =>
  (pI σ23 2 8 v27 v35).bind fun σ36 =>
  some ((), σ36)
set_option maxRecDepth 20000 in
set_option maxHeartbeats 2000000 in
theorem corc6_takeRules {Ω : Om} (N : Nat) (a0 : Nat) (σ : Me) : Cor Ω tc6_takeRules 1 0 0 [vR (some a0)] σ ιV (fc6_takeRules N a0 σ) := by
  refine Cor.of (by decide +kernel) (Nat.le_of_ble_eq_true rfl) (fun Γ hG => ?_)
  unfold fc6_takeRules
  show Sim Ω Γ 0 0 ιV 1 0 [(0, vR (some a0))] [] σ 0 0 _
  refine s_aload_n hG dc6_takeRules_0 rfl ?_
  refine s_getR hG kFc6_21 rfl dc6_takeRules_1 (fun v1 => ?_)
  refine s_aload_n hG dc6_takeRules_4 rfl ?_
  refine s_getR hG kFc6_15 rfl dc6_takeRules_5 (fun v5 => ?_)
  refine s_iconst (v := 0) hG dc6_takeRules_8 (by decide) ?_
  refine s_iald hG dc6_takeRules_9 (fun v9 => ?_)
  refine s_putI (fin := false) hG kFc6_102 rfl (fun h => by cases h) rfl (fun _ => rfl) (fun _ => rfl) dc6_takeRules_10 (fun σ10 => ?_)
  refine s_aload_n hG dc6_takeRules_13 rfl ?_
  refine s_getR hG kFc6_21 rfl dc6_takeRules_14 (fun v14 => ?_)
  refine s_aload_n hG dc6_takeRules_17 rfl ?_
  refine s_getR hG kFc6_15 rfl dc6_takeRules_18 (fun v18 => ?_)
  refine s_iconst (v := 1) hG dc6_takeRules_21 (by decide) ?_
  refine s_iald hG dc6_takeRules_22 (fun v22 => ?_)
  refine s_putI (fin := false) hG kFc6_105 rfl (fun h => by cases h) rfl (fun _ => rfl) (fun _ => rfl) dc6_takeRules_23 (fun σ23 => ?_)
  refine s_aload_n hG dc6_takeRules_26 rfl ?_
  refine s_getR hG kFc6_21 rfl dc6_takeRules_27 (fun v27 => ?_)
  refine s_aload_n hG dc6_takeRules_30 rfl ?_
  refine s_getR hG kFc6_15 rfl dc6_takeRules_31 (fun v31 => ?_)
  refine s_iconst (v := 2) hG dc6_takeRules_34 (by decide) ?_
  refine s_iald hG dc6_takeRules_35 (fun v35 => ?_)
  refine s_putI (fin := false) hG kFc6_108 rfl (fun h => by cases h) rfl (fun _ => rfl) (fun _ => rfl) dc6_takeRules_36 (fun σ36 => ?_)
  exact s_vret hG dc6_takeRules_39 rfl (Nat.le_of_ble_eq_true rfl) (Nat.le_of_ble_eq_true rfl)
def fc6_readClause_65 (N : Nat) (l0 : Option Nat) (l1 : Int32) (σ : Me) : Option (Int32 × Me) :=
  if l1 = (102 : Int32) then
    (qR σ 6 3 l0).bind fun v72 =>
    (qI σ 2 5 v72).bind fun v75 =>
    if (6 : Int32) ≤ v75 then
      retZ (0 : Int32) σ
    else
      (qR σ 6 0 l0).bind fun v84 =>
      (qI σ 10 2 v84).bind fun v88 =>
      (pI σ 10 2 v84 (v88 + (1 : Int32))).bind fun σ93 =>
      (dr σ93 l0 (.inl 6)).bind fun a =>
      (fc6_setWithout N a (some 1000001) σ93).bind fun p100 =>
      (dr p100.2 l0 (.inl 6)).bind fun a =>
      (fc6_readItems N a (some 1000021) (some 1000004) (some 1000005) p100.2).bind fun p112 =>
      (dr p112.2 l0 (.inl 6)).bind fun a =>
      (fc6_takeField N a p112.2).bind fun p117 =>
      retZ p112.1 p117.2
  else
    retZ (0 : Int32) σ
def fc6_readClause (N : Nat) (a0 : Nat) (σ : Me) : Option (Int32 × Me) :=
  (qR σ 6 0 (some a0)).bind fun v1 =>
  (dr σ v1 (.inl 10)).bind fun a =>
  (fc10_next N a σ).bind fun p4 =>
  if p4.1 = (115 : Int32) then
    (qI p4.2 6 2 (some a0)).bind fun v15 =>
    if v15 = 0 then
      (qR p4.2 6 0 (some a0)).bind fun v22 =>
      (qI p4.2 10 2 v22).bind fun v26 =>
      (pI p4.2 10 2 v22 (v26 + (1 : Int32))).bind fun σ31 =>
      (pZ σ31 6 2 (some a0) (1 : Int32)).bind fun σ36 =>
      (dr σ36 (some a0) (.inl 6)).bind fun a =>
      (fc6_setWithout N a (some 1000000) σ36).bind fun p43 =>
      (dr p43.2 (some a0) (.inl 6)).bind fun a =>
      (fc6_readItems N a (some 1000020) (some 1000002) (some 1000003) p43.2).bind fun p55 =>
      (dr p55.2 (some a0) (.inl 6)).bind fun a =>
      (fc6_takeRules N a p55.2).bind fun p60 =>
      retZ p55.1 p60.2
    else
      fc6_readClause_65 N (some a0) p4.1 p4.2
  else
    fc6_readClause_65 N (some a0) p4.1 p4.2
set_option maxRecDepth 20000 in
set_option maxHeartbeats 2000000 in
theorem pc6_readClause_65 {Ω : Om} {Γ : Ga} {N : Nat} (hG : Good Ω Γ tc6_readClause 6 0 0) (l0 : Option Nat) (l1 : Int32) (σ : Me) : Sim Ω Γ 0 0 ιI 3 65 [(0, vR l0), (1, vI l1)] [] σ 0 0 (fc6_readClause_65 N l0 l1 σ) := by
  unfold fc6_readClause_65
  refine s_iload_n hG dc6_readClause_65 rfl ?_
  refine s_bipush (v := 102) hG dc6_readClause_66 (by decide) ?_
  refine s_icmp_ne hG 122 dc6_readClause_68 (by decide) ?_ ?_
  · refine s_iconst (v := 0) hG dc6_readClause_122 (by decide) ?_
    exact s_zret hG dc6_readClause_123 rfl (Nat.le_of_ble_eq_true rfl) (Nat.le_of_ble_eq_true rfl)
  · refine s_aload_n hG dc6_readClause_71 rfl ?_
    refine s_getR hG kFc6_21 rfl dc6_readClause_72 (fun v72 => ?_)
    refine s_getI hG kFc6_39 rfl dc6_readClause_75 (fun v75 => ?_)
    refine s_bipush (v := 6) hG dc6_readClause_78 (by decide) ?_
    refine s_icmp_ge hG 122 dc6_readClause_80 (by decide) ?_ ?_
    · refine s_iconst (v := 0) hG dc6_readClause_122 (by decide) ?_
      exact s_zret hG dc6_readClause_123 rfl (Nat.le_of_ble_eq_true rfl) (Nat.le_of_ble_eq_true rfl)
    · refine s_aload_n hG dc6_readClause_83 rfl ?_
      refine s_getR hG kFc6_25 rfl dc6_readClause_84 (fun v84 => ?_)
      refine s_dup hG dc6_readClause_87 rfl ?_
      refine s_getI hG kFc6_29 rfl dc6_readClause_88 (fun v88 => ?_)
      refine s_iconst (v := 1) hG dc6_readClause_91 (by decide) ?_
      refine s_iadd hG dc6_readClause_92 ?_
      refine s_putI (fin := false) hG kFc6_29 rfl (fun h => by cases h) rfl (fun _ => rfl) (fun _ => rfl) dc6_readClause_93 (fun σ93 => ?_)
      refine s_aload_n hG dc6_readClause_96 rfl ?_
      refine s_gets hG 1 (by decide) kSc6_9 dc6_readClause_97 ?_
      refine s_callVv hG kMc6_48 (fun a => corc6_setWithout N a _ _) ⟨by decide, rfl⟩ rfl (by first | decide | omega) dc6_readClause_100 rfl rfl (Nat.le_of_ble_eq_true rfl) ⟨Nat.le_of_ble_eq_true rfl, Nat.le_of_ble_eq_true rfl⟩ (fun p100 => ?_)
      refine s_aload_n hG dc6_readClause_103 rfl ?_
      refine s_ldcS hG 1 (by decide) rfl rfl dc6_readClause_104 ?_
      refine s_gets hG 4 (by decide) kSc6_81 dc6_readClause_106 ?_
      refine s_gets hG 5 (by decide) kSc6_84 dc6_readClause_109 ?_
      refine s_callVi hG kMc6_75 (fun a => corc6_readItems N a _ _ _ _) ⟨by decide, rfl⟩ rfl (by first | decide | omega) dc6_readClause_112 rfl rfl (Nat.le_of_ble_eq_true rfl) ⟨Nat.le_of_ble_eq_true rfl, Nat.le_of_ble_eq_true rfl⟩ (fun p112 => ?_)
      refine s_istore_n hG dc6_readClause_115 (by decide) ?_
      refine s_aload_n hG dc6_readClause_116 rfl ?_
      refine s_callVv hG kMc6_87 (fun a => corc6_takeField N a _) ⟨by decide, rfl⟩ rfl (by first | decide | omega) dc6_readClause_117 rfl rfl (Nat.le_of_ble_eq_true rfl) ⟨Nat.le_of_ble_eq_true rfl, Nat.le_of_ble_eq_true rfl⟩ (fun p117 => ?_)
      refine s_iload_n hG dc6_readClause_120 rfl ?_
      exact s_zret hG dc6_readClause_121 rfl (Nat.le_of_ble_eq_true rfl) (Nat.le_of_ble_eq_true rfl)
set_option maxRecDepth 20000 in
set_option maxHeartbeats 2000000 in
theorem corc6_readClause {Ω : Om} (N : Nat) (a0 : Nat) (σ : Me) : Cor Ω tc6_readClause 6 0 0 [vR (some a0)] σ ιI (fc6_readClause N a0 σ) := by
  refine Cor.of (by decide +kernel) (Nat.le_of_ble_eq_true rfl) (fun Γ hG => ?_)
  unfold fc6_readClause
  show Sim Ω Γ 0 0 ιI 3 0 [(0, vR (some a0))] [] σ 0 0 _
  refine s_aload_n hG dc6_readClause_0 rfl ?_
  refine s_getR hG kFc6_25 rfl dc6_readClause_1 (fun v1 => ?_)
  refine s_callVi hG kMc6_59 (fun a => corc10_next N a _) ⟨by decide, rfl⟩ rfl (by first | decide | omega) dc6_readClause_4 rfl rfl (Nat.le_of_ble_eq_true rfl) ⟨Nat.le_of_ble_eq_true rfl, Nat.le_of_ble_eq_true rfl⟩ (fun p4 => ?_)
  refine s_istore_n hG dc6_readClause_7 (by decide) ?_
  refine s_iload_n hG dc6_readClause_8 rfl ?_
  refine s_bipush (v := 115) hG dc6_readClause_9 (by decide) ?_
  refine s_icmp_ne hG 65 dc6_readClause_11 (by decide) ?_ ?_
  · exact s_lv (lc rfl (lc rfl ln)) (pc6_readClause_65 hG _ _ _)
  · refine s_aload_n hG dc6_readClause_14 rfl ?_
    refine s_getI hG kFc6_35 rfl dc6_readClause_15 (fun v15 => ?_)
    refine s_if_ne hG 65 dc6_readClause_18 (by decide) ?_ ?_
    · exact s_lv (lc rfl (lc rfl ln)) (pc6_readClause_65 hG _ _ _)
    · refine s_aload_n hG dc6_readClause_21 rfl ?_
      refine s_getR hG kFc6_25 rfl dc6_readClause_22 (fun v22 => ?_)
      refine s_dup hG dc6_readClause_25 rfl ?_
      refine s_getI hG kFc6_29 rfl dc6_readClause_26 (fun v26 => ?_)
      refine s_iconst (v := 1) hG dc6_readClause_29 (by decide) ?_
      refine s_iadd hG dc6_readClause_30 ?_
      refine s_putI (fin := false) hG kFc6_29 rfl (fun h => by cases h) rfl (fun _ => rfl) (fun _ => rfl) dc6_readClause_31 (fun σ31 => ?_)
      refine s_aload_n hG dc6_readClause_34 rfl ?_
      refine s_iconst (v := 1) hG dc6_readClause_35 (by decide) ?_
      refine s_putZ hG kFc6_35 rfl rfl dc6_readClause_36 (fun σ36 => ?_)
      refine s_aload_n hG dc6_readClause_39 rfl ?_
      refine s_gets hG 0 (by decide) kSc6_45 dc6_readClause_40 ?_
      refine s_callVv hG kMc6_48 (fun a => corc6_setWithout N a _ _) ⟨by decide, rfl⟩ rfl (by first | decide | omega) dc6_readClause_43 rfl rfl (Nat.le_of_ble_eq_true rfl) ⟨Nat.le_of_ble_eq_true rfl, Nat.le_of_ble_eq_true rfl⟩ (fun p43 => ?_)
      refine s_aload_n hG dc6_readClause_46 rfl ?_
      refine s_ldcS hG 0 (by decide) rfl rfl dc6_readClause_47 ?_
      refine s_gets hG 2 (by decide) kSc6_69 dc6_readClause_49 ?_
      refine s_gets hG 3 (by decide) kSc6_72 dc6_readClause_52 ?_
      refine s_callVi hG kMc6_75 (fun a => corc6_readItems N a _ _ _ _) ⟨by decide, rfl⟩ rfl (by first | decide | omega) dc6_readClause_55 rfl rfl (Nat.le_of_ble_eq_true rfl) ⟨Nat.le_of_ble_eq_true rfl, Nat.le_of_ble_eq_true rfl⟩ (fun p55 => ?_)
      refine s_istore_n hG dc6_readClause_58 (by decide) ?_
      refine s_aload_n hG dc6_readClause_59 rfl ?_
      refine s_callVv hG kMc6_52 (fun a => corc6_takeRules N a _) ⟨by decide, rfl⟩ rfl (by first | decide | omega) dc6_readClause_60 rfl rfl (Nat.le_of_ble_eq_true rfl) ⟨Nat.le_of_ble_eq_true rfl, Nat.le_of_ble_eq_true rfl⟩ (fun p60 => ?_)
      refine s_iload_n hG dc6_readClause_63 rfl ?_
      exact s_zret hG dc6_readClause_64 rfl (Nat.le_of_ble_eq_true rfl) (Nat.le_of_ble_eq_true rfl)
def fc6_read_42 (N : Nat) : Nat → Option Nat → Int32 → Me → Option (Int32 × Me)
  | 0, _, _, _ => none
  | n + 1, l0, l1, σ =>
    if (240 : Int32) < l1 then
      retZ (0 : Int32) σ
    else
      (dr σ l0 (.inl 6)).bind fun a =>
      (fc6_readClause N a σ).bind fun p50 =>
      if p50.1 = 0 then
        retZ (0 : Int32) p50.2
      else
        (qR p50.2 6 0 l0).bind fun v59 =>
        (dr p50.2 v59 (.inl 10)).bind fun a =>
        (fc10_next N a p50.2).bind fun p62 =>
        if p62.1 = 0 then
          (qR p62.2 6 3 l0).bind fun v69 =>
          (qI p62.2 2 5 v69).bind fun v72 =>
          if v72 < (2 : Int32) then
            retZ (0 : Int32) p62.2
          else
            retZ (1 : Int32) p62.2
        else
          (qR p62.2 6 0 l0).bind fun v86 =>
          (dr p62.2 v86 (.inl 10)).bind fun a =>
          (fc10_take N a (59 : Int32) p62.2).bind fun p91 =>
          if p91.1 = 0 then
            retZ (0 : Int32) p91.2
          else
            (fc6_read_42 N n) l0 (l1 + (1 : Int32)) p91.2
def fc6_read (N : Nat) (a0 : Nat) (σ : Me) : Option (Int32 × Me) :=
  (qR σ 6 0 (some a0)).bind fun v1 =>
  (pI σ 10 2 v1 (0 : Int32)).bind fun σ5 =>
  (pZ σ5 6 2 (some a0) (0 : Int32)).bind fun σ10 =>
  (qR σ10 6 3 (some a0)).bind fun v14 =>
  (pI σ10 2 5 v14 (0 : Int32)).bind fun σ18 =>
  (qR σ18 6 3 (some a0)).bind fun v22 =>
  (pI σ18 2 9 v22 (0 : Int32)).bind fun σ26 =>
  (dr σ26 (some a0) (.inl 6)).bind fun a =>
  (fc6_setWithout N a (some 1000000) σ26).bind fun p33 =>
  (dr p33.2 (some a0) (.inl 6)).bind fun a =>
  (fc6_takeRules N a p33.2).bind fun p37 =>
  fc6_read_42 N N (some a0) (0 : Int32) p37.2
set_option maxRecDepth 20000 in
set_option maxHeartbeats 2000000 in
theorem pc6_read_42 {Ω : Om} {Γ : Ga} {N : Nat} (hG : Good Ω Γ tc6_read 7 0 0)  : ∀ (n : Nat) (l0 : Option Nat) (l1 : Int32) (σ : Me), Sim Ω Γ 0 0 ιI 2 42 [(0, vR l0), (1, vI l1)] [] σ 0 0 (fc6_read_42 N n l0 l1 σ) := by
  intro n
  induction n with
  | zero => intros; exact s_none
  | succ n ih =>
    intro l0 l1 σ
    unfold fc6_read_42
    refine s_iload_n hG dc6_read_42 rfl ?_
    refine s_sipush (v := 240) hG dc6_read_43 (by decide) ?_
    refine s_icmp_gt hG 105 dc6_read_46 (by decide) ?_ ?_
    · refine s_iconst (v := 0) hG dc6_read_105 (by decide) ?_
      exact s_zret hG dc6_read_106 rfl (Nat.le_of_ble_eq_true rfl) (Nat.le_of_ble_eq_true rfl)
    · refine s_aload_n hG dc6_read_49 rfl ?_
      refine s_callVi hG kMc6_55 (fun a => corc6_readClause N a _) ⟨by decide, rfl⟩ rfl (by first | decide | omega) dc6_read_50 rfl rfl (Nat.le_of_ble_eq_true rfl) ⟨Nat.le_of_ble_eq_true rfl, Nat.le_of_ble_eq_true rfl⟩ (fun p50 => ?_)
      refine s_if_ne hG 58 dc6_read_53 (by decide) ?_ ?_
      · refine s_aload_n hG dc6_read_58 rfl ?_
        refine s_getR hG kFc6_25 rfl dc6_read_59 (fun v59 => ?_)
        refine s_callVi hG kMc6_59 (fun a => corc10_next N a _) ⟨by decide, rfl⟩ rfl (by first | decide | omega) dc6_read_62 rfl rfl (Nat.le_of_ble_eq_true rfl) ⟨Nat.le_of_ble_eq_true rfl, Nat.le_of_ble_eq_true rfl⟩ (fun p62 => ?_)
        refine s_if_ne hG 85 dc6_read_65 (by decide) ?_ ?_
        · refine s_aload_n hG dc6_read_85 rfl ?_
          refine s_getR hG kFc6_25 rfl dc6_read_86 (fun v86 => ?_)
          refine s_bipush (v := 59) hG dc6_read_89 (by decide) ?_
          refine s_callVi hG kMc6_63 (fun a => corc10_take N a _ _) ⟨by decide, rfl⟩ rfl (by first | decide | omega) dc6_read_91 rfl rfl (Nat.le_of_ble_eq_true rfl) ⟨Nat.le_of_ble_eq_true rfl, Nat.le_of_ble_eq_true rfl⟩ (fun p91 => ?_)
          refine s_if_ne hG 99 dc6_read_94 (by decide) ?_ ?_
          · refine s_iinc (v := 1) hG dc6_read_99 rfl (by decide) (by decide) ?_
            refine s_goto hG 42 dc6_read_102 (by decide) ?_
            exact s_lv (lc rfl (lc rfl ln)) (ih _ _ _)
          · refine s_iconst (v := 0) hG dc6_read_97 (by decide) ?_
            exact s_zret hG dc6_read_98 rfl (Nat.le_of_ble_eq_true rfl) (Nat.le_of_ble_eq_true rfl)
        · refine s_aload_n hG dc6_read_68 rfl ?_
          refine s_getR hG kFc6_21 rfl dc6_read_69 (fun v69 => ?_)
          refine s_getI hG kFc6_39 rfl dc6_read_72 (fun v72 => ?_)
          refine s_iconst (v := 2) hG dc6_read_75 (by decide) ?_
          refine s_icmp_lt hG 83 dc6_read_76 (by decide) ?_ ?_
          · refine s_iconst (v := 0) hG dc6_read_83 (by decide) ?_
            exact s_zret hG dc6_read_84 rfl (Nat.le_of_ble_eq_true rfl) (Nat.le_of_ble_eq_true rfl)
          · refine s_iconst (v := 1) hG dc6_read_79 (by decide) ?_
            refine s_goto hG 84 dc6_read_80 (by decide) ?_
            exact s_zret hG dc6_read_84 rfl (Nat.le_of_ble_eq_true rfl) (Nat.le_of_ble_eq_true rfl)
      · refine s_iconst (v := 0) hG dc6_read_56 (by decide) ?_
        exact s_zret hG dc6_read_57 rfl (Nat.le_of_ble_eq_true rfl) (Nat.le_of_ble_eq_true rfl)
set_option maxRecDepth 20000 in
set_option maxHeartbeats 2000000 in
theorem corc6_read {Ω : Om} (N : Nat) (a0 : Nat) (σ : Me) : Cor Ω tc6_read 7 0 0 [vR (some a0)] σ ιI (fc6_read N a0 σ) := by
  refine Cor.of (by decide +kernel) (Nat.le_of_ble_eq_true rfl) (fun Γ hG => ?_)
  unfold fc6_read
  show Sim Ω Γ 0 0 ιI 2 0 [(0, vR (some a0))] [] σ 0 0 _
  refine s_aload_n hG dc6_read_0 rfl ?_
  refine s_getR hG kFc6_25 rfl dc6_read_1 (fun v1 => ?_)
  refine s_iconst (v := 0) hG dc6_read_4 (by decide) ?_
  refine s_putI (fin := false) hG kFc6_29 rfl (fun h => by cases h) rfl (fun _ => rfl) (fun _ => rfl) dc6_read_5 (fun σ5 => ?_)
  refine s_aload_n hG dc6_read_8 rfl ?_
  refine s_iconst (v := 0) hG dc6_read_9 (by decide) ?_
  refine s_putZ hG kFc6_35 rfl rfl dc6_read_10 (fun σ10 => ?_)
  refine s_aload_n hG dc6_read_13 rfl ?_
  refine s_getR hG kFc6_21 rfl dc6_read_14 (fun v14 => ?_)
  refine s_iconst (v := 0) hG dc6_read_17 (by decide) ?_
  refine s_putI (fin := false) hG kFc6_39 rfl (fun h => by cases h) rfl (fun _ => rfl) (fun _ => rfl) dc6_read_18 (fun σ18 => ?_)
  refine s_aload_n hG dc6_read_21 rfl ?_
  refine s_getR hG kFc6_21 rfl dc6_read_22 (fun v22 => ?_)
  refine s_iconst (v := 0) hG dc6_read_25 (by decide) ?_
  refine s_putI (fin := false) hG kFc6_42 rfl (fun h => by cases h) rfl (fun _ => rfl) (fun _ => rfl) dc6_read_26 (fun σ26 => ?_)
  refine s_aload_n hG dc6_read_29 rfl ?_
  refine s_gets hG 0 (by decide) kSc6_45 dc6_read_30 ?_
  refine s_callVv hG kMc6_48 (fun a => corc6_setWithout N a _ _) ⟨by decide, rfl⟩ rfl (by first | decide | omega) dc6_read_33 rfl rfl (Nat.le_of_ble_eq_true rfl) ⟨Nat.le_of_ble_eq_true rfl, Nat.le_of_ble_eq_true rfl⟩ (fun p33 => ?_)
  refine s_aload_n hG dc6_read_36 rfl ?_
  refine s_callVv hG kMc6_52 (fun a => corc6_takeRules N a _) ⟨by decide, rfl⟩ rfl (by first | decide | omega) dc6_read_37 rfl rfl (Nat.le_of_ble_eq_true rfl) ⟨Nat.le_of_ble_eq_true rfl, Nat.le_of_ble_eq_true rfl⟩ (fun p37 => ?_)
  refine s_iconst (v := 0) hG dc6_read_40 (by decide) ?_
  refine s_istore_n hG dc6_read_41 (by decide) ?_
  exact s_lv (lc rfl (lc rfl ln)) (pc6_read_42 hG _ _ _ _)
def fc8_readDigit (N : Nat) (a0 : Nat) (σ : Me) : Option (Int32 × Me) :=
  (qR σ 8 0 (some a0)).bind fun v1 =>
  (dr σ v1 (.inl 10)).bind fun a =>
  (fc10_next N a σ).bind fun p4 =>
  (fc10_isDigit N p4.1 p4.2).bind fun p9 =>
  if p9.1 = 0 then
    some ((-1 : Int32), p9.2)
  else
    (qR p9.2 8 0 (some a0)).bind fun v18 =>
    (qI p9.2 10 2 v18).bind fun v22 =>
    (pI p9.2 10 2 v18 (v22 + (1 : Int32))).bind fun σ27 =>
    some ((p4.1 - (48 : Int32)), σ27)
set_option maxRecDepth 20000 in
set_option maxHeartbeats 2000000 in
theorem corc8_readDigit {Ω : Om} (N : Nat) (a0 : Nat) (σ : Me) : Cor Ω tc8_readDigit 2 0 0 [vR (some a0)] σ ιI (fc8_readDigit N a0 σ) := by
  refine Cor.of (by decide +kernel) (Nat.le_of_ble_eq_true rfl) (fun Γ hG => ?_)
  unfold fc8_readDigit
  show Sim Ω Γ 0 0 ιI 2 0 [(0, vR (some a0))] [] σ 0 0 _
  refine s_aload_n hG dc8_readDigit_0 rfl ?_
  refine s_getR hG kFc8_23 rfl dc8_readDigit_1 (fun v1 => ?_)
  refine s_callVi hG kMc8_46 (fun a => corc10_next N a _) ⟨by decide, rfl⟩ rfl (by first | decide | omega) dc8_readDigit_4 rfl rfl (Nat.le_of_ble_eq_true rfl) ⟨Nat.le_of_ble_eq_true rfl, Nat.le_of_ble_eq_true rfl⟩ (fun p4 => ?_)
  refine s_istore_n hG dc8_readDigit_7 (by decide) ?_
  refine s_iload_n hG dc8_readDigit_8 rfl ?_
  refine s_callSi hG kMc8_61 (corc10_isDigit N _ _) rfl (by first | decide | omega) dc8_readDigit_9 rfl rfl (Nat.le_of_ble_eq_true rfl) ⟨Nat.le_of_ble_eq_true rfl, Nat.le_of_ble_eq_true rfl⟩ (fun p9 => ?_)
  refine s_if_ne hG 17 dc8_readDigit_12 (by decide) ?_ ?_
  · refine s_aload_n hG dc8_readDigit_17 rfl ?_
    refine s_getR hG kFc8_23 rfl dc8_readDigit_18 (fun v18 => ?_)
    refine s_dup hG dc8_readDigit_21 rfl ?_
    refine s_getI hG kFc8_34 rfl dc8_readDigit_22 (fun v22 => ?_)
    refine s_iconst (v := 1) hG dc8_readDigit_25 (by decide) ?_
    refine s_iadd hG dc8_readDigit_26 ?_
    refine s_putI (fin := false) hG kFc8_34 rfl (fun h => by cases h) rfl (fun _ => rfl) (fun _ => rfl) dc8_readDigit_27 (fun σ27 => ?_)
    refine s_iload_n hG dc8_readDigit_30 rfl ?_
    refine s_bipush (v := 48) hG dc8_readDigit_31 (by decide) ?_
    refine s_isub hG dc8_readDigit_33 ?_
    exact s_iret hG dc8_readDigit_34 rfl (Nat.le_of_ble_eq_true rfl) (Nat.le_of_ble_eq_true rfl)
  · refine s_iconst (v := -1) hG dc8_readDigit_15 (by decide) ?_
    exact s_iret hG dc8_readDigit_16 rfl (Nat.le_of_ble_eq_true rfl) (Nat.le_of_ble_eq_true rfl)
def fc8_readStep_80 (N : Nat) (l0 : Option Nat) (l1 : Int32) (σ : Me) : Option (Int32 × Me) :=
  (qR σ 8 2 l0).bind fun v81 =>
  (ldI σ v81 l1).bind fun v85 =>
  if v85 = (-1 : Int32) then
    retZ (0 : Int32) σ
  else
    retZ (1 : Int32) σ
def fc8_readStep_137 (N : Nat) (l2 : Int32) (σ : Me) : Option (Int32 × Me) :=
  if l2 = (-1 : Int32) then
    retZ (0 : Int32) σ
  else
    retZ (1 : Int32) σ
def fc8_readStep (N : Nat) (a0 : Nat) (x1 : Int32) (σ : Me) : Option (Int32 × Me) :=
  (qR σ 8 1 (some a0)).bind fun v1 =>
  (qR σ 8 0 (some a0)).bind fun v8 =>
  (dr σ v8 (.inl 10)).bind fun a =>
  (fc10_next N a σ).bind fun p11 =>
  (drS (some 1000023)).bind fun a =>
  (fSr_indexOf N a (UInt32.toInt32 (Int32.toUInt32 p11.1 % 65536)) p11.2).bind fun p15 =>
  (stI p15.2 v1 x1 p15.1).bind fun σ18 =>
  (qR σ18 8 1 (some a0)).bind fun v20 =>
  (ldI σ18 v20 x1).bind fun v24 =>
  if 0 ≤ v24 then
    (qR σ18 8 0 (some a0)).bind fun v31 =>
    (qI σ18 10 2 v31).bind fun v35 =>
    (pI σ18 10 2 v31 (v35 + (1 : Int32))).bind fun σ40 =>
    (qR σ40 8 2 (some a0)).bind fun v44 =>
    (dr σ40 (some a0) (.inl 8)).bind fun a =>
    (fc8_readDigit N a σ40).bind fun p49 =>
    (stI p49.2 v44 x1 p49.1).bind fun σ52 =>
    (qR σ52 8 3 (some a0)).bind fun v54 =>
    (stI σ52 v54 x1 (-1 : Int32)).bind fun σ59 =>
    (qR σ59 8 2 (some a0)).bind fun v61 =>
    (ldI σ59 v61 x1).bind fun v65 =>
    if v65 = (-1 : Int32) then
      fc8_readStep_80 N (some a0) x1 σ59
    else
      (qR σ59 8 1 (some a0)).bind fun v71 =>
      (ldI σ59 v71 x1).bind fun v75 =>
      if v75 ≤ (1 : Int32) then
        (dr σ59 (some a0) (.inl 8)).bind fun a =>
        (fc8_readDigit N a σ59).bind fun p97 =>
        (qR p97.2 8 1 (some a0)).bind fun v102 =>
        (ldI p97.2 v102 x1).bind fun v106 =>
        if v106 = 0 then
          (qR p97.2 8 2 (some a0)).bind fun v111 =>
          (qR p97.2 8 2 (some a0)).bind fun v118 =>
          (ldI p97.2 v118 x1).bind fun v122 =>
          (stI p97.2 v111 x1 (((10 : Int32) * v122) + p97.1)).bind fun σ126 =>
          fc8_readStep_137 N p97.1 σ126
        else
          (qR p97.2 8 3 (some a0)).bind fun v131 =>
          (stI p97.2 v131 x1 p97.1).bind fun σ136 =>
          fc8_readStep_137 N p97.1 σ136
      else
        fc8_readStep_80 N (some a0) x1 σ59
  else
    retZ (0 : Int32) σ18
set_option maxRecDepth 20000 in
set_option maxHeartbeats 2000000 in
theorem pc8_readStep_80 {Ω : Om} {Γ : Ga} {N : Nat} (hG : Good Ω Γ tc8_readStep 5 0 0) (l0 : Option Nat) (l1 : Int32) (σ : Me) : Sim Ω Γ 0 0 ιI 3 80 [(0, vR l0), (1, vI l1)] [] σ 0 0 (fc8_readStep_80 N l0 l1 σ) := by
  unfold fc8_readStep_80
  refine s_aload_n hG dc8_readStep_80 rfl ?_
  refine s_getR hG kFc8_17 rfl dc8_readStep_81 (fun v81 => ?_)
  refine s_iload_n hG dc8_readStep_84 rfl ?_
  refine s_iald hG dc8_readStep_85 (fun v85 => ?_)
  refine s_iconst (v := -1) hG dc8_readStep_86 (by decide) ?_
  refine s_icmp_eq hG 94 dc8_readStep_87 (by decide) ?_ ?_
  · refine s_iconst (v := 0) hG dc8_readStep_94 (by decide) ?_
    exact s_zret hG dc8_readStep_95 rfl (Nat.le_of_ble_eq_true rfl) (Nat.le_of_ble_eq_true rfl)
  · refine s_iconst (v := 1) hG dc8_readStep_90 (by decide) ?_
    refine s_goto hG 95 dc8_readStep_91 (by decide) ?_
    exact s_zret hG dc8_readStep_95 rfl (Nat.le_of_ble_eq_true rfl) (Nat.le_of_ble_eq_true rfl)
set_option maxRecDepth 20000 in
set_option maxHeartbeats 2000000 in
theorem pc8_readStep_137 {Ω : Om} {Γ : Ga} {N : Nat} (hG : Good Ω Γ tc8_readStep 5 0 0) (l2 : Int32) (σ : Me) : Sim Ω Γ 0 0 ιI 3 137 [(2, vI l2)] [] σ 0 0 (fc8_readStep_137 N l2 σ) := by
  unfold fc8_readStep_137
  refine s_iload_n hG dc8_readStep_137 rfl ?_
  refine s_iconst (v := -1) hG dc8_readStep_138 (by decide) ?_
  refine s_icmp_eq hG 146 dc8_readStep_139 (by decide) ?_ ?_
  · refine s_iconst (v := 0) hG dc8_readStep_146 (by decide) ?_
    exact s_zret hG dc8_readStep_147 rfl (Nat.le_of_ble_eq_true rfl) (Nat.le_of_ble_eq_true rfl)
  · refine s_iconst (v := 1) hG dc8_readStep_142 (by decide) ?_
    refine s_goto hG 147 dc8_readStep_143 (by decide) ?_
    exact s_zret hG dc8_readStep_147 rfl (Nat.le_of_ble_eq_true rfl) (Nat.le_of_ble_eq_true rfl)
set_option maxRecDepth 20000 in
set_option maxHeartbeats 2000000 in
theorem corc8_readStep {Ω : Om} (N : Nat) (a0 : Nat) (x1 : Int32) (σ : Me) : Cor Ω tc8_readStep 5 0 0 [vR (some a0), vI x1] σ ιI (fc8_readStep N a0 x1 σ) := by
  refine Cor.of (by decide +kernel) (Nat.le_of_ble_eq_true rfl) (fun Γ hG => ?_)
  unfold fc8_readStep
  show Sim Ω Γ 0 0 ιI 3 0 [(0, vR (some a0)), (1, vI x1)] [] σ 0 0 _
  refine s_aload_n hG dc8_readStep_0 rfl ?_
  refine s_getR hG kFc8_11 rfl dc8_readStep_1 (fun v1 => ?_)
  refine s_iload_n hG dc8_readStep_4 rfl ?_
  refine s_ldcS hG 3 (by decide) rfl rfl dc8_readStep_5 ?_
  refine s_aload_n hG dc8_readStep_7 rfl ?_
  refine s_getR hG kFc8_23 rfl dc8_readStep_8 (fun v8 => ?_)
  refine s_callVi hG kMc8_46 (fun a => corc10_next N a _) ⟨by decide, rfl⟩ rfl (by first | decide | omega) dc8_readStep_11 rfl rfl (Nat.le_of_ble_eq_true rfl) ⟨Nat.le_of_ble_eq_true rfl, Nat.le_of_ble_eq_true rfl⟩ (fun p11 => ?_)
  refine s_i2c hG dc8_readStep_14 ?_
  refine s_callTi hG kMc8_52 (fun a => corSr_indexOf N a _ _) rfl rfl (by first | decide | omega) dc8_readStep_15 rfl rfl (Nat.le_of_ble_eq_true rfl) ⟨Nat.le_of_ble_eq_true rfl, Nat.le_of_ble_eq_true rfl⟩ (fun p15 => ?_)
  refine s_iast hG dc8_readStep_18 (fun σ18 => ?_)
  refine s_aload_n hG dc8_readStep_19 rfl ?_
  refine s_getR hG kFc8_11 rfl dc8_readStep_20 (fun v20 => ?_)
  refine s_iload_n hG dc8_readStep_23 rfl ?_
  refine s_iald hG dc8_readStep_24 (fun v24 => ?_)
  refine s_if_ge hG 30 dc8_readStep_25 (by decide) ?_ ?_
  · refine s_aload_n hG dc8_readStep_30 rfl ?_
    refine s_getR hG kFc8_23 rfl dc8_readStep_31 (fun v31 => ?_)
    refine s_dup hG dc8_readStep_34 rfl ?_
    refine s_getI hG kFc8_34 rfl dc8_readStep_35 (fun v35 => ?_)
    refine s_iconst (v := 1) hG dc8_readStep_38 (by decide) ?_
    refine s_iadd hG dc8_readStep_39 ?_
    refine s_putI (fin := false) hG kFc8_34 rfl (fun h => by cases h) rfl (fun _ => rfl) (fun _ => rfl) dc8_readStep_40 (fun σ40 => ?_)
    refine s_aload_n hG dc8_readStep_43 rfl ?_
    refine s_getR hG kFc8_17 rfl dc8_readStep_44 (fun v44 => ?_)
    refine s_iload_n hG dc8_readStep_47 rfl ?_
    refine s_aload_n hG dc8_readStep_48 rfl ?_
    refine s_callVi hG kMc8_58 (fun a => corc8_readDigit N a _) ⟨by decide, rfl⟩ rfl (by first | decide | omega) dc8_readStep_49 rfl rfl (Nat.le_of_ble_eq_true rfl) ⟨Nat.le_of_ble_eq_true rfl, Nat.le_of_ble_eq_true rfl⟩ (fun p49 => ?_)
    refine s_iast hG dc8_readStep_52 (fun σ52 => ?_)
    refine s_aload_n hG dc8_readStep_53 rfl ?_
    refine s_getR hG kFc8_20 rfl dc8_readStep_54 (fun v54 => ?_)
    refine s_iload_n hG dc8_readStep_57 rfl ?_
    refine s_iconst (v := -1) hG dc8_readStep_58 (by decide) ?_
    refine s_iast hG dc8_readStep_59 (fun σ59 => ?_)
    refine s_aload_n hG dc8_readStep_60 rfl ?_
    refine s_getR hG kFc8_17 rfl dc8_readStep_61 (fun v61 => ?_)
    refine s_iload_n hG dc8_readStep_64 rfl ?_
    refine s_iald hG dc8_readStep_65 (fun v65 => ?_)
    refine s_iconst (v := -1) hG dc8_readStep_66 (by decide) ?_
    refine s_icmp_eq hG 80 dc8_readStep_67 (by decide) ?_ ?_
    · exact s_lv (lc rfl (lc rfl ln)) (pc8_readStep_80 hG _ _ _)
    · refine s_aload_n hG dc8_readStep_70 rfl ?_
      refine s_getR hG kFc8_11 rfl dc8_readStep_71 (fun v71 => ?_)
      refine s_iload_n hG dc8_readStep_74 rfl ?_
      refine s_iald hG dc8_readStep_75 (fun v75 => ?_)
      refine s_iconst (v := 1) hG dc8_readStep_76 (by decide) ?_
      refine s_icmp_le hG 96 dc8_readStep_77 (by decide) ?_ ?_
      · refine s_aload_n hG dc8_readStep_96 rfl ?_
        refine s_callVi hG kMc8_58 (fun a => corc8_readDigit N a _) ⟨by decide, rfl⟩ rfl (by first | decide | omega) dc8_readStep_97 rfl rfl (Nat.le_of_ble_eq_true rfl) ⟨Nat.le_of_ble_eq_true rfl, Nat.le_of_ble_eq_true rfl⟩ (fun p97 => ?_)
        refine s_istore_n hG dc8_readStep_100 (by decide) ?_
        refine s_aload_n hG dc8_readStep_101 rfl ?_
        refine s_getR hG kFc8_11 rfl dc8_readStep_102 (fun v102 => ?_)
        refine s_iload_n hG dc8_readStep_105 rfl ?_
        refine s_iald hG dc8_readStep_106 (fun v106 => ?_)
        refine s_if_ne hG 130 dc8_readStep_107 (by decide) ?_ ?_
        · refine s_aload_n hG dc8_readStep_130 rfl ?_
          refine s_getR hG kFc8_20 rfl dc8_readStep_131 (fun v131 => ?_)
          refine s_iload_n hG dc8_readStep_134 rfl ?_
          refine s_iload_n hG dc8_readStep_135 rfl ?_
          refine s_iast hG dc8_readStep_136 (fun σ136 => ?_)
          exact s_lv (lc rfl ln) (pc8_readStep_137 hG _ _)
        · refine s_aload_n hG dc8_readStep_110 rfl ?_
          refine s_getR hG kFc8_17 rfl dc8_readStep_111 (fun v111 => ?_)
          refine s_iload_n hG dc8_readStep_114 rfl ?_
          refine s_bipush (v := 10) hG dc8_readStep_115 (by decide) ?_
          refine s_aload_n hG dc8_readStep_117 rfl ?_
          refine s_getR hG kFc8_17 rfl dc8_readStep_118 (fun v118 => ?_)
          refine s_iload_n hG dc8_readStep_121 rfl ?_
          refine s_iald hG dc8_readStep_122 (fun v122 => ?_)
          refine s_imul hG dc8_readStep_123 ?_
          refine s_iload_n hG dc8_readStep_124 rfl ?_
          refine s_iadd hG dc8_readStep_125 ?_
          refine s_iast hG dc8_readStep_126 (fun σ126 => ?_)
          refine s_goto hG 137 dc8_readStep_127 (by decide) ?_
          exact s_lv (lc rfl ln) (pc8_readStep_137 hG _ _)
      · exact s_lv (lc rfl (lc rfl ln)) (pc8_readStep_80 hG _ _ _)
  · refine s_iconst (v := 0) hG dc8_readStep_28 (by decide) ?_
    exact s_zret hG dc8_readStep_29 rfl (Nat.le_of_ble_eq_true rfl) (Nat.le_of_ble_eq_true rfl)
