def fc11_bothWant (N : Nat) (a0 : Nat) (x1 : Int32) (x2 : Int32) (x3 : Int32) (σ : Me) : Option (Int32 × Me) :=
  (qR σ 11 10 (some a0)).bind fun v1 =>
  (dr σ v1 (.inl 2)).bind fun a =>
  (fc2_isSale N a x1 x2 (1 : Int32) σ).bind fun p7 =>
  if p7.1 = 0 then
    retZ (0 : Int32) p7.2
  else
    (dr p7.2 (some a0) (.inl 11)).bind fun a =>
    (fc11_lookBehindSale N a x1 x2 (1 : Int32) x3 p7.2).bind fun p20 =>
    (qR p20.2 11 12 (some a0)).bind fun v24 =>
    (qR p20.2 11 11 (some a0)).bind fun v28 =>
    (dr p20.2 v24 (.inl 9)).bind fun a =>
    (fc9_settle N a v28 p20.2).bind fun p31 =>
    (qR p31.2 11 11 (some a0)).bind fun v35 =>
    (qR p31.2 2 4 v35).bind fun v38 =>
    (ldI p31.2 v38 x1).bind fun v42 =>
    (qR p31.2 11 18 (some a0)).bind fun v44 =>
    (ldI p31.2 v44 x1).bind fun v48 =>
    if v42 ≤ v48 then
      retZ (0 : Int32) p31.2
    else
      (qR p31.2 11 11 (some a0)).bind fun v53 =>
      (qR p31.2 2 4 v53).bind fun v56 =>
      (ldI p31.2 v56 x2).bind fun v60 =>
      (qR p31.2 11 18 (some a0)).bind fun v62 =>
      (ldI p31.2 v62 x2).bind fun v66 =>
      if v60 ≤ v66 then
        retZ (0 : Int32) p31.2
      else
        retZ (1 : Int32) p31.2
set_option maxRecDepth 20000 in
set_option maxHeartbeats 2000000 in
theorem corc11_bothWant {Ω : Om} (N : Nat) (a0 : Nat) (x1 : Int32) (x2 : Int32) (x3 : Int32) (σ : Me) : Cor Ω tc11_bothWant 7 0 0 [vR (some a0), vI x1, vI x2, vI x3] σ ιI (fc11_bothWant N a0 x1 x2 x3 σ) := by
  refine Cor.of (by decide +kernel) (Nat.le_of_ble_eq_true rfl) (fun Γ hG => ?_)
  unfold fc11_bothWant
  show Sim Ω Γ 0 0 ιI 4 0 [(0, vR (some a0)), (1, vI x1), (2, vI x2), (3, vI x3)] [] σ 0 0 _
  refine s_aload_n hG dc11_bothWant_0 rfl ?_
  refine s_getR hG kFc11_58 rfl dc11_bothWant_1 (fun v1 => ?_)
  refine s_iload_n hG dc11_bothWant_4 rfl ?_
  refine s_iload_n hG dc11_bothWant_5 rfl ?_
  refine s_iconst (v := 1) hG dc11_bothWant_6 (by decide) ?_
  refine s_callVi hG kMc11_264 (fun a => corc2_isSale N a _ _ _ _) ⟨by decide, rfl⟩ rfl (by first | decide | omega) dc11_bothWant_7 rfl rfl (Nat.le_of_ble_eq_true rfl) ⟨Nat.le_of_ble_eq_true rfl, Nat.le_of_ble_eq_true rfl⟩ (fun p7 => ?_)
  refine s_if_ne hG 15 dc11_bothWant_10 (by decide) ?_ ?_
  · refine s_aload_n hG dc11_bothWant_15 rfl ?_
    refine s_iload_n hG dc11_bothWant_16 rfl ?_
    refine s_iload_n hG dc11_bothWant_17 rfl ?_
    refine s_iconst (v := 1) hG dc11_bothWant_18 (by decide) ?_
    refine s_iload_n hG dc11_bothWant_19 rfl ?_
    refine s_callVv hG kMc11_358 (fun a => corc11_lookBehindSale N a _ _ _ _ _) ⟨by decide, rfl⟩ rfl (by first | decide | omega) dc11_bothWant_20 rfl rfl (Nat.le_of_ble_eq_true rfl) ⟨Nat.le_of_ble_eq_true rfl, Nat.le_of_ble_eq_true rfl⟩ (fun p20 => ?_)
    refine s_aload_n hG dc11_bothWant_23 rfl ?_
    refine s_getR hG kFc11_68 rfl dc11_bothWant_24 (fun v24 => ?_)
    refine s_aload_n hG dc11_bothWant_27 rfl ?_
    refine s_getR hG kFc11_62 rfl dc11_bothWant_28 (fun v28 => ?_)
    refine s_callVv hG kMc11_329 (fun a => corc9_settle N a _ _) ⟨by decide, rfl⟩ rfl (by first | decide | omega) dc11_bothWant_31 rfl rfl (Nat.le_of_ble_eq_true rfl) ⟨Nat.le_of_ble_eq_true rfl, Nat.le_of_ble_eq_true rfl⟩ (fun p31 => ?_)
    refine s_aload_n hG dc11_bothWant_34 rfl ?_
    refine s_getR hG kFc11_62 rfl dc11_bothWant_35 (fun v35 => ?_)
    refine s_getR hG kFc11_198 rfl dc11_bothWant_38 (fun v38 => ?_)
    refine s_iload_n hG dc11_bothWant_41 rfl ?_
    refine s_iald hG dc11_bothWant_42 (fun v42 => ?_)
    refine s_aload_n hG dc11_bothWant_43 rfl ?_
    refine s_getR hG kFc11_100 rfl dc11_bothWant_44 (fun v44 => ?_)
    refine s_iload_n hG dc11_bothWant_47 rfl ?_
    refine s_iald hG dc11_bothWant_48 (fun v48 => ?_)
    refine s_icmp_le hG 74 dc11_bothWant_49 (by decide) ?_ ?_
    · refine s_iconst (v := 0) hG dc11_bothWant_74 (by decide) ?_
      exact s_zret hG dc11_bothWant_75 rfl (Nat.le_of_ble_eq_true rfl) (Nat.le_of_ble_eq_true rfl)
    · refine s_aload_n hG dc11_bothWant_52 rfl ?_
      refine s_getR hG kFc11_62 rfl dc11_bothWant_53 (fun v53 => ?_)
      refine s_getR hG kFc11_198 rfl dc11_bothWant_56 (fun v56 => ?_)
      refine s_iload_n hG dc11_bothWant_59 rfl ?_
      refine s_iald hG dc11_bothWant_60 (fun v60 => ?_)
      refine s_aload_n hG dc11_bothWant_61 rfl ?_
      refine s_getR hG kFc11_100 rfl dc11_bothWant_62 (fun v62 => ?_)
      refine s_iload_n hG dc11_bothWant_65 rfl ?_
      refine s_iald hG dc11_bothWant_66 (fun v66 => ?_)
      refine s_icmp_le hG 74 dc11_bothWant_67 (by decide) ?_ ?_
      · refine s_iconst (v := 0) hG dc11_bothWant_74 (by decide) ?_
        exact s_zret hG dc11_bothWant_75 rfl (Nat.le_of_ble_eq_true rfl) (Nat.le_of_ble_eq_true rfl)
      · refine s_iconst (v := 1) hG dc11_bothWant_70 (by decide) ?_
        refine s_goto hG 75 dc11_bothWant_71 (by decide) ?_
        exact s_zret hG dc11_bothWant_75 rfl (Nat.le_of_ble_eq_true rfl) (Nat.le_of_ble_eq_true rfl)
  · refine s_iconst (v := 0) hG dc11_bothWant_13 (by decide) ?_
    exact s_zret hG dc11_bothWant_14 rfl (Nat.le_of_ble_eq_true rfl) (Nat.le_of_ble_eq_true rfl)
def fc11_trades_135 (N : Nat) (K72 : Option Nat → Int32 → Int32 → Int32 → Int32 → Me → Option (Int32 × Me)) (K87 : Option Nat → Int32 → Int32 → Int32 → Int32 → Int32 → Me → Option (Int32 × Me)) (l0 : Option Nat) (l1 : Int32) (l2 : Int32) (l3 : Int32) (l4 : Int32) (l5 : Int32) (σ : Me) : Option (Int32 × Me) :=
  K87 l0 l1 l2 l3 l4 (l5 + (1 : Int32)) σ
def fc11_trades_87 (N : Nat) (K72 : Option Nat → Int32 → Int32 → Int32 → Int32 → Me → Option (Int32 × Me)) : Nat → Option Nat → Int32 → Int32 → Int32 → Int32 → Int32 → Me → Option (Int32 × Me)
  | 0, _, _, _, _, _, _, _ => none
  | n + 1, l0, l1, l2, l3, l4, l5, σ =>
    (qR σ 11 10 l0).bind fun v90 =>
    (qI σ 2 5 v90).bind fun v93 =>
    if v93 ≤ l5 then
      K72 l0 l1 l2 l3 (l4 + (1 : Int32)) σ
    else
      if l4 = l5 then
        fc11_trades_135 N K72 (fc11_trades_87 N K72 n) l0 l1 l2 l3 l4 l5 σ
      else
        (dr σ l0 (.inl 11)).bind fun a =>
        (fc11_bothWant N a l4 l5 l1 σ).bind fun p112 =>
        if p112.1 = 0 then
          fc11_trades_135 N K72 (fc11_trades_87 N K72 n) l0 l1 l2 l3 l4 l5 p112.2
        else
          if l3 = l2 then
            some ((((10 : Int32) * l4) + l5), p112.2)
          else
            fc11_trades_135 N K72 (fc11_trades_87 N K72 n) l0 l1 l2 (l3 + (1 : Int32)) l4 l5 p112.2
def fc11_trades_72 (N : Nat) : Nat → Option Nat → Int32 → Int32 → Int32 → Int32 → Me → Option (Int32 × Me)
  | 0, _, _, _, _, _, _ => none
  | n + 1, l0, l1, l2, l3, l4, σ =>
    (qR σ 11 10 l0).bind fun v75 =>
    (qI σ 2 5 v75).bind fun v78 =>
    if v78 ≤ l4 then
      if l2 = (-1 : Int32) then
        some (l3, σ)
      else
        some ((-1 : Int32), σ)
    else
      fc11_trades_87 N (fc11_trades_72 N n) N l0 l1 l2 l3 l4 (0 : Int32) σ
def fc11_trades (N : Nat) (a0 : Nat) (x1 : Int32) (x2 : Int32) (σ : Me) : Option (Int32 × Me) :=
  (dr σ (some a0) (.inl 11)).bind fun a =>
  (fc11_isSky N a x1 σ).bind fun p2 =>
  if p2.1 = 0 then
    some ((-1 : Int32), p2.2)
  else
    if (-1 : Int32) ≤ x2 then
      (qR p2.2 11 11 (some a0)).bind fun v16 =>
      (qR p2.2 11 10 (some a0)).bind fun v20 =>
      (dr p2.2 v16 (.inl 2)).bind fun a =>
      (fc2_copyFrom N a v20 p2.2).bind fun p23 =>
      (qR p23.2 11 12 (some a0)).bind fun v27 =>
      (qR p23.2 11 11 (some a0)).bind fun v31 =>
      (dr p23.2 v27 (.inl 9)).bind fun a =>
      (fc9_look N a v31 x1 p23.2).bind fun p35 =>
      (qR p35.2 11 12 (some a0)).bind fun v39 =>
      (qR p35.2 11 11 (some a0)).bind fun v43 =>
      (dr p35.2 v39 (.inl 9)).bind fun a =>
      (fc9_settle N a v43 p35.2).bind fun p46 =>
      (qR p46.2 11 11 (some a0)).bind fun v50 =>
      (qR p46.2 2 4 v50).bind fun v53 =>
      (qR p46.2 11 18 (some a0)).bind fun v58 =>
      (cpI p46.2 v53 (0 : Int32) v58 (0 : Int32) (6 : Int32)).bind fun σ64 =>
      fc11_trades_72 N N (some a0) x1 x2 (0 : Int32) (0 : Int32) σ64
    else
      some ((-1 : Int32), p2.2)
set_option maxRecDepth 20000 in
set_option maxHeartbeats 2000000 in
theorem pc11_trades_135 {Ω : Om} {Γ : Ga} {N : Nat} (hG : Good Ω Γ tc11_trades 8 0 0) {K72 : Option Nat → Int32 → Int32 → Int32 → Int32 → Me → Option (Int32 × Me)} {K87 : Option Nat → Int32 → Int32 → Int32 → Int32 → Int32 → Me → Option (Int32 × Me)} (hK72 : ∀ (l0 : Option Nat) (l1 : Int32) (l2 : Int32) (l3 : Int32) (l4 : Int32) (σ : Me), Sim Ω Γ 0 0 ιI 6 72 [(0, vR l0), (1, vI l1), (2, vI l2), (3, vI l3), (4, vI l4)] [] σ 0 0 (K72 l0 l1 l2 l3 l4 σ)) (hK87 : ∀ (l0 : Option Nat) (l1 : Int32) (l2 : Int32) (l3 : Int32) (l4 : Int32) (l5 : Int32) (σ : Me), Sim Ω Γ 0 0 ιI 6 87 [(0, vR l0), (1, vI l1), (2, vI l2), (3, vI l3), (4, vI l4), (5, vI l5)] [] σ 0 0 (K87 l0 l1 l2 l3 l4 l5 σ)) (l0 : Option Nat) (l1 : Int32) (l2 : Int32) (l3 : Int32) (l4 : Int32) (l5 : Int32) (σ : Me) : Sim Ω Γ 0 0 ιI 6 135 [(0, vR l0), (1, vI l1), (2, vI l2), (3, vI l3), (4, vI l4), (5, vI l5)] [] σ 0 0 (fc11_trades_135 N K72 K87 l0 l1 l2 l3 l4 l5 σ) := by
  unfold fc11_trades_135
  refine s_iinc (v := 1) hG dc11_trades_135 rfl (by decide) (by decide) ?_
  refine s_goto hG 87 dc11_trades_138 (by decide) ?_
  exact s_lv (lc rfl (lc rfl (lc rfl (lc rfl (lc rfl (lc rfl ln)))))) (hK87 _ _ _ _ _ _ _)
set_option maxRecDepth 20000 in
set_option maxHeartbeats 2000000 in
theorem pc11_trades_87 {Ω : Om} {Γ : Ga} {N : Nat} (hG : Good Ω Γ tc11_trades 8 0 0) {K72 : Option Nat → Int32 → Int32 → Int32 → Int32 → Me → Option (Int32 × Me)} (hK72 : ∀ (l0 : Option Nat) (l1 : Int32) (l2 : Int32) (l3 : Int32) (l4 : Int32) (σ : Me), Sim Ω Γ 0 0 ιI 6 72 [(0, vR l0), (1, vI l1), (2, vI l2), (3, vI l3), (4, vI l4)] [] σ 0 0 (K72 l0 l1 l2 l3 l4 σ))  : ∀ (n : Nat) (l0 : Option Nat) (l1 : Int32) (l2 : Int32) (l3 : Int32) (l4 : Int32) (l5 : Int32) (σ : Me), Sim Ω Γ 0 0 ιI 6 87 [(0, vR l0), (1, vI l1), (2, vI l2), (3, vI l3), (4, vI l4), (5, vI l5)] [] σ 0 0 (fc11_trades_87 N K72 n l0 l1 l2 l3 l4 l5 σ) := by
  intro n
  induction n with
  | zero => intros; exact s_none
  | succ n ih =>
    intro l0 l1 l2 l3 l4 l5 σ
    unfold fc11_trades_87
    refine s_iload hG dc11_trades_87 rfl ?_
    refine s_aload_n hG dc11_trades_89 rfl ?_
    refine s_getR hG kFc11_58 rfl dc11_trades_90 (fun v90 => ?_)
    refine s_getI hG kFc11_154 rfl dc11_trades_93 (fun v93 => ?_)
    refine s_icmp_ge hG 141 dc11_trades_96 (by decide) ?_ ?_
    · refine s_iinc (v := 1) hG dc11_trades_141 rfl (by decide) (by decide) ?_
      refine s_goto hG 72 dc11_trades_144 (by decide) ?_
      exact s_lv (lc rfl (lc rfl (lc rfl (lc rfl (lc rfl ln))))) (hK72 _ _ _ _ _ _)
    · refine s_iload hG dc11_trades_99 rfl ?_
      refine s_iload hG dc11_trades_101 rfl ?_
      refine s_icmp_eq hG 135 dc11_trades_103 (by decide) ?_ ?_
      · exact s_lv (lc rfl (lc rfl (lc rfl (lc rfl (lc rfl (lc rfl ln)))))) (pc11_trades_135 hG hK72 ih _ _ _ _ _ _ _)
      · refine s_aload_n hG dc11_trades_106 rfl ?_
        refine s_iload hG dc11_trades_107 rfl ?_
        refine s_iload hG dc11_trades_109 rfl ?_
        refine s_iload_n hG dc11_trades_111 rfl ?_
        refine s_callVi hG kMc11_367 (fun a => corc11_bothWant N a _ _ _ _) ⟨by decide, rfl⟩ rfl (by first | decide | omega) dc11_trades_112 rfl rfl (Nat.le_of_ble_eq_true rfl) ⟨Nat.le_of_ble_eq_true rfl, Nat.le_of_ble_eq_true rfl⟩ (fun p112 => ?_)
        refine s_if_eq hG 135 dc11_trades_115 (by decide) ?_ ?_
        · exact s_lv (lc rfl (lc rfl (lc rfl (lc rfl (lc rfl (lc rfl ln)))))) (pc11_trades_135 hG hK72 ih _ _ _ _ _ _ _)
        · refine s_iload_n hG dc11_trades_118 rfl ?_
          refine s_iload_n hG dc11_trades_119 rfl ?_
          refine s_icmp_ne hG 132 dc11_trades_120 (by decide) ?_ ?_
          · refine s_iinc (v := 1) hG dc11_trades_132 rfl (by decide) (by decide) ?_
            exact s_lv (lc rfl (lc rfl (lc rfl (lc rfl (lc rfl (lc rfl ln)))))) (pc11_trades_135 hG hK72 ih _ _ _ _ _ _ _)
          · refine s_bipush (v := 10) hG dc11_trades_123 (by decide) ?_
            refine s_iload hG dc11_trades_125 rfl ?_
            refine s_imul hG dc11_trades_127 ?_
            refine s_iload hG dc11_trades_128 rfl ?_
            refine s_iadd hG dc11_trades_130 ?_
            exact s_iret hG dc11_trades_131 rfl (Nat.le_of_ble_eq_true rfl) (Nat.le_of_ble_eq_true rfl)
set_option maxRecDepth 20000 in
set_option maxHeartbeats 2000000 in
theorem pc11_trades_72 {Ω : Om} {Γ : Ga} {N : Nat} (hG : Good Ω Γ tc11_trades 8 0 0)  : ∀ (n : Nat) (l0 : Option Nat) (l1 : Int32) (l2 : Int32) (l3 : Int32) (l4 : Int32) (σ : Me), Sim Ω Γ 0 0 ιI 6 72 [(0, vR l0), (1, vI l1), (2, vI l2), (3, vI l3), (4, vI l4)] [] σ 0 0 (fc11_trades_72 N n l0 l1 l2 l3 l4 σ) := by
  intro n
  induction n with
  | zero => intros; exact s_none
  | succ n ih =>
    intro l0 l1 l2 l3 l4 σ
    unfold fc11_trades_72
    refine s_iload hG dc11_trades_72 rfl ?_
    refine s_aload_n hG dc11_trades_74 rfl ?_
    refine s_getR hG kFc11_58 rfl dc11_trades_75 (fun v75 => ?_)
    refine s_getI hG kFc11_154 rfl dc11_trades_78 (fun v78 => ?_)
    refine s_icmp_ge hG 147 dc11_trades_81 (by decide) ?_ ?_
    · refine s_iload_n hG dc11_trades_147 rfl ?_
      refine s_iconst (v := -1) hG dc11_trades_148 (by decide) ?_
      refine s_icmp_ne hG 156 dc11_trades_149 (by decide) ?_ ?_
      · refine s_iconst (v := -1) hG dc11_trades_156 (by decide) ?_
        exact s_iret hG dc11_trades_157 rfl (Nat.le_of_ble_eq_true rfl) (Nat.le_of_ble_eq_true rfl)
      · refine s_iload_n hG dc11_trades_152 rfl ?_
        refine s_goto hG 157 dc11_trades_153 (by decide) ?_
        exact s_iret hG dc11_trades_157 rfl (Nat.le_of_ble_eq_true rfl) (Nat.le_of_ble_eq_true rfl)
    · refine s_iconst (v := 0) hG dc11_trades_84 (by decide) ?_
      refine s_istore hG dc11_trades_85 (by decide) ?_
      exact s_lv (lc rfl (lc rfl (lc rfl (lc rfl (lc rfl (lc rfl ln)))))) (pc11_trades_87 hG ih _ _ _ _ _ _ _ _)
set_option maxRecDepth 20000 in
set_option maxHeartbeats 2000000 in
theorem corc11_trades {Ω : Om} (N : Nat) (a0 : Nat) (x1 : Int32) (x2 : Int32) (σ : Me) : Cor Ω tc11_trades 8 0 0 [vR (some a0), vI x1, vI x2] σ ιI (fc11_trades N a0 x1 x2 σ) := by
  refine Cor.of (by decide +kernel) (Nat.le_of_ble_eq_true rfl) (fun Γ hG => ?_)
  unfold fc11_trades
  show Sim Ω Γ 0 0 ιI 6 0 [(0, vR (some a0)), (1, vI x1), (2, vI x2)] [] σ 0 0 _
  refine s_aload_n hG dc11_trades_0 rfl ?_
  refine s_iload_n hG dc11_trades_1 rfl ?_
  refine s_callVi hG kMc11_251 (fun a => corc11_isSky N a _ _) ⟨by decide, rfl⟩ rfl (by first | decide | omega) dc11_trades_2 rfl rfl (Nat.le_of_ble_eq_true rfl) ⟨Nat.le_of_ble_eq_true rfl, Nat.le_of_ble_eq_true rfl⟩ (fun p2 => ?_)
  refine s_if_eq hG 13 dc11_trades_5 (by decide) ?_ ?_
  · refine s_iconst (v := -1) hG dc11_trades_13 (by decide) ?_
    exact s_iret hG dc11_trades_14 rfl (Nat.le_of_ble_eq_true rfl) (Nat.le_of_ble_eq_true rfl)
  · refine s_iload_n hG dc11_trades_8 rfl ?_
    refine s_iconst (v := -1) hG dc11_trades_9 (by decide) ?_
    refine s_icmp_ge hG 15 dc11_trades_10 (by decide) ?_ ?_
    · refine s_aload_n hG dc11_trades_15 rfl ?_
      refine s_getR hG kFc11_62 rfl dc11_trades_16 (fun v16 => ?_)
      refine s_aload_n hG dc11_trades_19 rfl ?_
      refine s_getR hG kFc11_58 rfl dc11_trades_20 (fun v20 => ?_)
      refine s_callVv hG kMc11_140 (fun a => corc2_copyFrom N a _ _) ⟨by decide, rfl⟩ rfl (by first | decide | omega) dc11_trades_23 rfl rfl (Nat.le_of_ble_eq_true rfl) ⟨Nat.le_of_ble_eq_true rfl, Nat.le_of_ble_eq_true rfl⟩ (fun p23 => ?_)
      refine s_aload_n hG dc11_trades_26 rfl ?_
      refine s_getR hG kFc11_68 rfl dc11_trades_27 (fun v27 => ?_)
      refine s_aload_n hG dc11_trades_30 rfl ?_
      refine s_getR hG kFc11_62 rfl dc11_trades_31 (fun v31 => ?_)
      refine s_iload_n hG dc11_trades_34 rfl ?_
      refine s_callVv hG kMc11_315 (fun a => corc9_look N a _ _ _) ⟨by decide, rfl⟩ rfl (by first | decide | omega) dc11_trades_35 rfl rfl (Nat.le_of_ble_eq_true rfl) ⟨Nat.le_of_ble_eq_true rfl, Nat.le_of_ble_eq_true rfl⟩ (fun p35 => ?_)
      refine s_aload_n hG dc11_trades_38 rfl ?_
      refine s_getR hG kFc11_68 rfl dc11_trades_39 (fun v39 => ?_)
      refine s_aload_n hG dc11_trades_42 rfl ?_
      refine s_getR hG kFc11_62 rfl dc11_trades_43 (fun v43 => ?_)
      refine s_callVv hG kMc11_329 (fun a => corc9_settle N a _ _) ⟨by decide, rfl⟩ rfl (by first | decide | omega) dc11_trades_46 rfl rfl (Nat.le_of_ble_eq_true rfl) ⟨Nat.le_of_ble_eq_true rfl, Nat.le_of_ble_eq_true rfl⟩ (fun p46 => ?_)
      refine s_aload_n hG dc11_trades_49 rfl ?_
      refine s_getR hG kFc11_62 rfl dc11_trades_50 (fun v50 => ?_)
      refine s_getR hG kFc11_198 rfl dc11_trades_53 (fun v53 => ?_)
      refine s_iconst (v := 0) hG dc11_trades_56 (by decide) ?_
      refine s_aload_n hG dc11_trades_57 rfl ?_
      refine s_getR hG kFc11_100 rfl dc11_trades_58 (fun v58 => ?_)
      refine s_iconst (v := 0) hG dc11_trades_61 (by decide) ?_
      refine s_bipush (v := 6) hG dc11_trades_62 (by decide) ?_
      refine s_copy hG kYc11_361 rfl (by decide) dc11_trades_64 (Nat.le_of_ble_eq_true rfl) (fun σ64 => ?_)
      refine s_iconst (v := 0) hG dc11_trades_67 (by decide) ?_
      refine s_istore_n hG dc11_trades_68 (by decide) ?_
      refine s_iconst (v := 0) hG dc11_trades_69 (by decide) ?_
      refine s_istore hG dc11_trades_70 (by decide) ?_
      exact s_lv (lc rfl (lc rfl (lc rfl (lc rfl (lc rfl ln))))) (pc11_trades_72 hG _ _ _ _ _ _ _)
    · refine s_iconst (v := -1) hG dc11_trades_13 (by decide) ?_
      exact s_iret hG dc11_trades_14 rfl (Nat.le_of_ble_eq_true rfl) (Nat.le_of_ble_eq_true rfl)
def fc1_isFull (N : Nat) (a0 : Nat) (σ : Me) : Option (Int32 × Me) :=
  (qI σ 1 4 (some a0)).bind fun v1 =>
  if v1 < (10 : Int32) then
    retZ (0 : Int32) σ
  else
    retZ (1 : Int32) σ
set_option maxRecDepth 20000 in
set_option maxHeartbeats 2000000 in
theorem corc1_isFull {Ω : Om} (N : Nat) (a0 : Nat) (σ : Me) : Cor Ω tc1_isFull 1 0 0 [vR (some a0)] σ ιI (fc1_isFull N a0 σ) := by
  refine Cor.of (by decide +kernel) (Nat.le_of_ble_eq_true rfl) (fun Γ hG => ?_)
  unfold fc1_isFull
  show Sim Ω Γ 0 0 ιI 1 0 [(0, vR (some a0))] [] σ 0 0 _
  refine s_aload_n hG dc1_isFull_0 rfl ?_
  refine s_getI hG kFc1_37 rfl dc1_isFull_1 (fun v1 => ?_)
  refine s_bipush (v := 10) hG dc1_isFull_4 (by decide) ?_
  refine s_icmp_lt hG 13 dc1_isFull_6 (by decide) ?_ ?_
  · refine s_iconst (v := 0) hG dc1_isFull_13 (by decide) ?_
    exact s_zret hG dc1_isFull_14 rfl (Nat.le_of_ble_eq_true rfl) (Nat.le_of_ble_eq_true rfl)
  · refine s_iconst (v := 1) hG dc1_isFull_9 (by decide) ?_
    refine s_goto hG 14 dc1_isFull_10 (by decide) ?_
    exact s_zret hG dc1_isFull_14 rfl (Nat.le_of_ble_eq_true rfl) (Nat.le_of_ble_eq_true rfl)
def fc1_note (N : Nat) (a0 : Nat) (x1 : Int32) (x2 : Int32) (x3 : Int32) (x4 : Int32) (σ : Me) : Option (Unit × Me) :=
  (dr σ (some a0) (.inl 1)).bind fun a =>
  (fc1_isFull N a σ).bind fun p1 =>
  if p1.1 = 0 then
    (qR p1.2 1 0 (some a0)).bind fun v9 =>
    (qI p1.2 1 4 (some a0)).bind fun v13 =>
    (stI p1.2 v9 v13 x1).bind fun σ17 =>
    (qR σ17 1 1 (some a0)).bind fun v19 =>
    (qI σ17 1 4 (some a0)).bind fun v23 =>
    (stI σ17 v19 v23 x2).bind fun σ27 =>
    (qR σ27 1 2 (some a0)).bind fun v29 =>
    (qI σ27 1 4 (some a0)).bind fun v33 =>
    (stI σ27 v29 v33 x3).bind fun σ37 =>
    (qR σ37 1 3 (some a0)).bind fun v39 =>
    (qI σ37 1 4 (some a0)).bind fun v43 =>
    (stZ σ37 v39 v43 x4).bind fun σ48 =>
    (qI σ48 1 4 (some a0)).bind fun v51 =>
    (pI σ48 1 4 (some a0) (v51 + (1 : Int32))).bind fun σ56 =>
    some ((), σ56)
  else
    some ((), p1.2)
set_option maxRecDepth 20000 in
set_option maxHeartbeats 2000000 in
theorem corc1_note {Ω : Om} (N : Nat) (a0 : Nat) (x1 : Int32) (x2 : Int32) (x3 : Int32) (x4 : Int32) (σ : Me) : Cor Ω tc1_note 2 0 0 [vR (some a0), vI x1, vI x2, vI x3, vI x4] σ ιV (fc1_note N a0 x1 x2 x3 x4 σ) := by
  refine Cor.of (by decide +kernel) (Nat.le_of_ble_eq_true rfl) (fun Γ hG => ?_)
  unfold fc1_note
  show Sim Ω Γ 0 0 ιV 5 0 [(0, vR (some a0)), (1, vI x1), (2, vI x2), (3, vI x3), (4, vI x4)] [] σ 0 0 _
  refine s_aload_n hG dc1_note_0 rfl ?_
  refine s_callVi hG kMc1_41 (fun a => corc1_isFull N a _) ⟨by decide, rfl⟩ rfl (by first | decide | omega) dc1_note_1 rfl rfl (Nat.le_of_ble_eq_true rfl) ⟨Nat.le_of_ble_eq_true rfl, Nat.le_of_ble_eq_true rfl⟩ (fun p1 => ?_)
  refine s_if_eq hG 8 dc1_note_4 (by decide) ?_ ?_
  · refine s_aload_n hG dc1_note_8 rfl ?_
    refine s_getR hG kFc1_11 rfl dc1_note_9 (fun v9 => ?_)
    refine s_aload_n hG dc1_note_12 rfl ?_
    refine s_getI hG kFc1_37 rfl dc1_note_13 (fun v13 => ?_)
    refine s_iload_n hG dc1_note_16 rfl ?_
    refine s_iast hG dc1_note_17 (fun σ17 => ?_)
    refine s_aload_n hG dc1_note_18 rfl ?_
    refine s_getR hG kFc1_15 rfl dc1_note_19 (fun v19 => ?_)
    refine s_aload_n hG dc1_note_22 rfl ?_
    refine s_getI hG kFc1_37 rfl dc1_note_23 (fun v23 => ?_)
    refine s_iload_n hG dc1_note_26 rfl ?_
    refine s_iast hG dc1_note_27 (fun σ27 => ?_)
    refine s_aload_n hG dc1_note_28 rfl ?_
    refine s_getR hG kFc1_18 rfl dc1_note_29 (fun v29 => ?_)
    refine s_aload_n hG dc1_note_32 rfl ?_
    refine s_getI hG kFc1_37 rfl dc1_note_33 (fun v33 => ?_)
    refine s_iload_n hG dc1_note_36 rfl ?_
    refine s_iast hG dc1_note_37 (fun σ37 => ?_)
    refine s_aload_n hG dc1_note_38 rfl ?_
    refine s_getR hG kFc1_21 rfl dc1_note_39 (fun v39 => ?_)
    refine s_aload_n hG dc1_note_42 rfl ?_
    refine s_getI hG kFc1_37 rfl dc1_note_43 (fun v43 => ?_)
    refine s_iload hG dc1_note_46 rfl ?_
    refine s_zast hG dc1_note_48 (fun σ48 => ?_)
    refine s_aload_n hG dc1_note_49 rfl ?_
    refine s_dup hG dc1_note_50 rfl ?_
    refine s_getI hG kFc1_37 rfl dc1_note_51 (fun v51 => ?_)
    refine s_iconst (v := 1) hG dc1_note_54 (by decide) ?_
    refine s_iadd hG dc1_note_55 ?_
    refine s_putI (fin := false) hG kFc1_37 rfl (fun h => by cases h) rfl (fun _ => rfl) (fun _ => rfl) dc1_note_56 (fun σ56 => ?_)
    exact s_vret hG dc1_note_59 rfl (Nat.le_of_ble_eq_true rfl) (Nat.le_of_ble_eq_true rfl)
  · exact s_vret hG dc1_note_7 rfl (Nat.le_of_ble_eq_true rfl) (Nat.le_of_ble_eq_true rfl)
def fc11_fell (N : Nat) (a0 : Nat) (x1 : Int32) (x2 : Int32) (x3 : Int32) (x4 : Int32) (σ : Me) : Option (Int32 × Me) :=
  (qR σ 11 10 (some a0)).bind fun v1 =>
  (dr σ v1 (.inl 2)).bind fun a =>
  (fc2_has N a x1 σ).bind fun p5 =>
  if p5.1 = 0 then
    some ((-1 : Int32), p5.2)
  else
    (fc11_isRain N x2 p5.2).bind fun p12 =>
    if p12.1 = 0 then
      some ((-1 : Int32), p12.2)
    else
      if x3 < 0 then
        some ((-1 : Int32), p12.2)
      else
        if (99 : Int32) < x3 then
          some ((-1 : Int32), p12.2)
        else
          (qR p12.2 11 15 (some a0)).bind fun v29 =>
          (dr p12.2 v29 (.inl 1)).bind fun a =>
          (fc1_isFull N a p12.2).bind fun p32 =>
          if p32.1 = 0 then
            (qR p32.2 11 15 (some a0)).bind fun v41 =>
            (dr p32.2 v41 (.inl 1)).bind fun a =>
            (fc1_note N a x1 x2 x3 x4 p32.2).bind fun p49 =>
            (qR p49.2 11 15 (some a0)).bind fun v53 =>
            (qI p49.2 1 4 v53).bind fun v56 =>
            some (v56, p49.2)
          else
            some ((-1 : Int32), p32.2)
set_option maxRecDepth 20000 in
set_option maxHeartbeats 2000000 in
theorem corc11_fell {Ω : Om} (N : Nat) (a0 : Nat) (x1 : Int32) (x2 : Int32) (x3 : Int32) (x4 : Int32) (σ : Me) : Cor Ω tc11_fell 3 0 0 [vR (some a0), vI x1, vI x2, vI x3, vI x4] σ ιI (fc11_fell N a0 x1 x2 x3 x4 σ) := by
  refine Cor.of (by decide +kernel) (Nat.le_of_ble_eq_true rfl) (fun Γ hG => ?_)
  unfold fc11_fell
  show Sim Ω Γ 0 0 ιI 5 0 [(0, vR (some a0)), (1, vI x1), (2, vI x2), (3, vI x3), (4, vI x4)] [] σ 0 0 _
  refine s_aload_n hG dc11_fell_0 rfl ?_
  refine s_getR hG kFc11_58 rfl dc11_fell_1 (fun v1 => ?_)
  refine s_iload_n hG dc11_fell_4 rfl ?_
  refine s_callVi hG kMc11_180 (fun a => corc2_has N a _ _) ⟨by decide, rfl⟩ rfl (by first | decide | omega) dc11_fell_5 rfl rfl (Nat.le_of_ble_eq_true rfl) ⟨Nat.le_of_ble_eq_true rfl, Nat.le_of_ble_eq_true rfl⟩ (fun p5 => ?_)
  refine s_if_eq hG 38 dc11_fell_8 (by decide) ?_ ?_
  · refine s_iconst (v := -1) hG dc11_fell_38 (by decide) ?_
    exact s_iret hG dc11_fell_39 rfl (Nat.le_of_ble_eq_true rfl) (Nat.le_of_ble_eq_true rfl)
  · refine s_iload_n hG dc11_fell_11 rfl ?_
    refine s_callSi hG kMc11_340 (corc11_isRain N _ _) rfl (by first | decide | omega) dc11_fell_12 rfl rfl (Nat.le_of_ble_eq_true rfl) ⟨Nat.le_of_ble_eq_true rfl, Nat.le_of_ble_eq_true rfl⟩ (fun p12 => ?_)
    refine s_if_eq hG 38 dc11_fell_15 (by decide) ?_ ?_
    · refine s_iconst (v := -1) hG dc11_fell_38 (by decide) ?_
      exact s_iret hG dc11_fell_39 rfl (Nat.le_of_ble_eq_true rfl) (Nat.le_of_ble_eq_true rfl)
    · refine s_iload_n hG dc11_fell_18 rfl ?_
      refine s_if_lt hG 38 dc11_fell_19 (by decide) ?_ ?_
      · refine s_iconst (v := -1) hG dc11_fell_38 (by decide) ?_
        exact s_iret hG dc11_fell_39 rfl (Nat.le_of_ble_eq_true rfl) (Nat.le_of_ble_eq_true rfl)
      · refine s_iload_n hG dc11_fell_22 rfl ?_
        refine s_bipush (v := 99) hG dc11_fell_23 (by decide) ?_
        refine s_icmp_gt hG 38 dc11_fell_25 (by decide) ?_ ?_
        · refine s_iconst (v := -1) hG dc11_fell_38 (by decide) ?_
          exact s_iret hG dc11_fell_39 rfl (Nat.le_of_ble_eq_true rfl) (Nat.le_of_ble_eq_true rfl)
        · refine s_aload_n hG dc11_fell_28 rfl ?_
          refine s_getR hG kFc11_89 rfl dc11_fell_29 (fun v29 => ?_)
          refine s_callVi hG kMc11_370 (fun a => corc1_isFull N a _) ⟨by decide, rfl⟩ rfl (by first | decide | omega) dc11_fell_32 rfl rfl (Nat.le_of_ble_eq_true rfl) ⟨Nat.le_of_ble_eq_true rfl, Nat.le_of_ble_eq_true rfl⟩ (fun p32 => ?_)
          refine s_if_eq hG 40 dc11_fell_35 (by decide) ?_ ?_
          · refine s_aload_n hG dc11_fell_40 rfl ?_
            refine s_getR hG kFc11_89 rfl dc11_fell_41 (fun v41 => ?_)
            refine s_iload_n hG dc11_fell_44 rfl ?_
            refine s_iload_n hG dc11_fell_45 rfl ?_
            refine s_iload_n hG dc11_fell_46 rfl ?_
            refine s_iload hG dc11_fell_47 rfl ?_
            refine s_callVv hG kMc11_373 (fun a => corc1_note N a _ _ _ _ _) ⟨by decide, rfl⟩ rfl (by first | decide | omega) dc11_fell_49 rfl rfl (Nat.le_of_ble_eq_true rfl) ⟨Nat.le_of_ble_eq_true rfl, Nat.le_of_ble_eq_true rfl⟩ (fun p49 => ?_)
            refine s_aload_n hG dc11_fell_52 rfl ?_
            refine s_getR hG kFc11_89 rfl dc11_fell_53 (fun v53 => ?_)
            refine s_getI hG kFc11_151 rfl dc11_fell_56 (fun v56 => ?_)
            exact s_iret hG dc11_fell_59 rfl (Nat.le_of_ble_eq_true rfl) (Nat.le_of_ble_eq_true rfl)
          · refine s_iconst (v := -1) hG dc11_fell_38 (by decide) ?_
            exact s_iret hG dc11_fell_39 rfl (Nat.le_of_ble_eq_true rfl) (Nat.le_of_ble_eq_true rfl)
def fc1_allowAll_2 (N : Nat) : Nat → Option Nat → Int32 → Me → Option (Unit × Me)
  | 0, _, _, _ => none
  | n + 1, l0, l1, σ =>
    if (99 : Int32) < l1 then
      some ((), σ)
    else
      (qR σ 1 5 l0).bind fun v9 =>
      (stZ σ v9 l1 (1 : Int32)).bind fun σ14 =>
      (fc1_allowAll_2 N n) l0 (l1 + (1 : Int32)) σ14
def fc1_allowAll (N : Nat) (a0 : Nat) (σ : Me) : Option (Unit × Me) :=
  fc1_allowAll_2 N N (some a0) (0 : Int32) σ
set_option maxRecDepth 20000 in
set_option maxHeartbeats 2000000 in
theorem pc1_allowAll_2 {Ω : Om} {Γ : Ga} {N : Nat} (hG : Good Ω Γ tc1_allowAll 1 0 0)  : ∀ (n : Nat) (l0 : Option Nat) (l1 : Int32) (σ : Me), Sim Ω Γ 0 0 ιV 2 2 [(0, vR l0), (1, vI l1)] [] σ 0 0 (fc1_allowAll_2 N n l0 l1 σ) := by
  intro n
  induction n with
  | zero => intros; exact s_none
  | succ n ih =>
    intro l0 l1 σ
    unfold fc1_allowAll_2
    refine s_iload_n hG dc1_allowAll_2 rfl ?_
    refine s_bipush (v := 99) hG dc1_allowAll_3 (by decide) ?_
    refine s_icmp_gt hG 21 dc1_allowAll_5 (by decide) ?_ ?_
    · exact s_vret hG dc1_allowAll_21 rfl (Nat.le_of_ble_eq_true rfl) (Nat.le_of_ble_eq_true rfl)
    · refine s_aload_n hG dc1_allowAll_8 rfl ?_
      refine s_getR hG kFc1_25 rfl dc1_allowAll_9 (fun v9 => ?_)
      refine s_iload_n hG dc1_allowAll_12 rfl ?_
      refine s_iconst (v := 1) hG dc1_allowAll_13 (by decide) ?_
      refine s_zast hG dc1_allowAll_14 (fun σ14 => ?_)
      refine s_iinc (v := 1) hG dc1_allowAll_15 rfl (by decide) (by decide) ?_
      refine s_goto hG 2 dc1_allowAll_18 (by decide) ?_
      exact s_lv (lc rfl (lc rfl ln)) (ih _ _ _)
set_option maxRecDepth 20000 in
set_option maxHeartbeats 2000000 in
theorem corc1_allowAll {Ω : Om} (N : Nat) (a0 : Nat) (σ : Me) : Cor Ω tc1_allowAll 1 0 0 [vR (some a0)] σ ιV (fc1_allowAll N a0 σ) := by
  refine Cor.of (by decide +kernel) (Nat.le_of_ble_eq_true rfl) (fun Γ hG => ?_)
  unfold fc1_allowAll
  show Sim Ω Γ 0 0 ιV 2 0 [(0, vR (some a0))] [] σ 0 0 _
  refine s_iconst (v := 0) hG dc1_allowAll_0 (by decide) ?_
  refine s_istore_n hG dc1_allowAll_1 (by decide) ?_
  exact s_lv (lc rfl (lc rfl ln)) (pc1_allowAll_2 hG _ _ _ _)
def fc1_listAllowed_29 (N : Nat) (K4 : Option Nat → Int32 → Int32 → Me → Option (Int32 × Me)) (l0 : Option Nat) (l1 : Int32) (l2 : Int32) (σ : Me) : Option (Int32 × Me) :=
  K4 l0 l1 (l2 + (1 : Int32)) σ
def fc1_listAllowed_4 (N : Nat) : Nat → Option Nat → Int32 → Int32 → Me → Option (Int32 × Me)
  | 0, _, _, _, _ => none
  | n + 1, l0, l1, l2, σ =>
    if (99 : Int32) < l2 then
      some (l1, σ)
    else
      (qR σ 1 5 l0).bind fun v11 =>
      (ldZ σ v11 l2).bind fun v15 =>
      if v15 = 0 then
        fc1_listAllowed_29 N (fc1_listAllowed_4 N n) l0 l1 l2 σ
      else
        (qR σ 1 6 l0).bind fun v20 =>
        (stI σ v20 l1 l2).bind fun σ28 =>
        fc1_listAllowed_29 N (fc1_listAllowed_4 N n) l0 (l1 + (1 : Int32)) l2 σ28
def fc1_listAllowed (N : Nat) (a0 : Nat) (σ : Me) : Option (Int32 × Me) :=
  fc1_listAllowed_4 N N (some a0) (0 : Int32) (0 : Int32) σ
set_option maxRecDepth 20000 in
set_option maxHeartbeats 2000000 in
theorem pc1_listAllowed_29 {Ω : Om} {Γ : Ga} {N : Nat} (hG : Good Ω Γ tc1_listAllowed 1 0 0) {K4 : Option Nat → Int32 → Int32 → Me → Option (Int32 × Me)} (hK4 : ∀ (l0 : Option Nat) (l1 : Int32) (l2 : Int32) (σ : Me), Sim Ω Γ 0 0 ιI 3 4 [(0, vR l0), (1, vI l1), (2, vI l2)] [] σ 0 0 (K4 l0 l1 l2 σ)) (l0 : Option Nat) (l1 : Int32) (l2 : Int32) (σ : Me) : Sim Ω Γ 0 0 ιI 3 29 [(0, vR l0), (1, vI l1), (2, vI l2)] [] σ 0 0 (fc1_listAllowed_29 N K4 l0 l1 l2 σ) := by
  unfold fc1_listAllowed_29
  refine s_iinc (v := 1) hG dc1_listAllowed_29 rfl (by decide) (by decide) ?_
  refine s_goto hG 4 dc1_listAllowed_32 (by decide) ?_
  exact s_lv (lc rfl (lc rfl (lc rfl ln))) (hK4 _ _ _ _)
set_option maxRecDepth 20000 in
set_option maxHeartbeats 2000000 in
theorem pc1_listAllowed_4 {Ω : Om} {Γ : Ga} {N : Nat} (hG : Good Ω Γ tc1_listAllowed 1 0 0)  : ∀ (n : Nat) (l0 : Option Nat) (l1 : Int32) (l2 : Int32) (σ : Me), Sim Ω Γ 0 0 ιI 3 4 [(0, vR l0), (1, vI l1), (2, vI l2)] [] σ 0 0 (fc1_listAllowed_4 N n l0 l1 l2 σ) := by
  intro n
  induction n with
  | zero => intros; exact s_none
  | succ n ih =>
    intro l0 l1 l2 σ
    unfold fc1_listAllowed_4
    refine s_iload_n hG dc1_listAllowed_4 rfl ?_
    refine s_bipush (v := 99) hG dc1_listAllowed_5 (by decide) ?_
    refine s_icmp_gt hG 35 dc1_listAllowed_7 (by decide) ?_ ?_
    · refine s_iload_n hG dc1_listAllowed_35 rfl ?_
      exact s_iret hG dc1_listAllowed_36 rfl (Nat.le_of_ble_eq_true rfl) (Nat.le_of_ble_eq_true rfl)
    · refine s_aload_n hG dc1_listAllowed_10 rfl ?_
      refine s_getR hG kFc1_25 rfl dc1_listAllowed_11 (fun v11 => ?_)
      refine s_iload_n hG dc1_listAllowed_14 rfl ?_
      refine s_zald hG dc1_listAllowed_15 (fun v15 => ?_)
      refine s_if_eq hG 29 dc1_listAllowed_16 (by decide) ?_ ?_
      · exact s_lv (lc rfl (lc rfl (lc rfl ln))) (pc1_listAllowed_29 hG ih _ _ _ _)
      · refine s_aload_n hG dc1_listAllowed_19 rfl ?_
        refine s_getR hG kFc1_28 rfl dc1_listAllowed_20 (fun v20 => ?_)
        refine s_iload_n hG dc1_listAllowed_23 rfl ?_
        refine s_iinc (v := 1) hG dc1_listAllowed_24 rfl (by decide) (by decide) ?_
        refine s_iload_n hG dc1_listAllowed_27 rfl ?_
        refine s_iast hG dc1_listAllowed_28 (fun σ28 => ?_)
        exact s_lv (lc rfl (lc rfl (lc rfl ln))) (pc1_listAllowed_29 hG ih _ _ _ _)
set_option maxRecDepth 20000 in
set_option maxHeartbeats 2000000 in
theorem corc1_listAllowed {Ω : Om} (N : Nat) (a0 : Nat) (σ : Me) : Cor Ω tc1_listAllowed 1 0 0 [vR (some a0)] σ ιI (fc1_listAllowed N a0 σ) := by
  refine Cor.of (by decide +kernel) (Nat.le_of_ble_eq_true rfl) (fun Γ hG => ?_)
  unfold fc1_listAllowed
  show Sim Ω Γ 0 0 ιI 3 0 [(0, vR (some a0))] [] σ 0 0 _
  refine s_iconst (v := 0) hG dc1_listAllowed_0 (by decide) ?_
  refine s_istore_n hG dc1_listAllowed_1 (by decide) ?_
  refine s_iconst (v := 0) hG dc1_listAllowed_2 (by decide) ?_
  refine s_istore_n hG dc1_listAllowed_3 (by decide) ?_
  exact s_lv (lc rfl (lc rfl (lc rfl ln))) (pc1_listAllowed_4 hG _ _ _ _ _)
def fc11_fitDebts_175 (N : Nat) (K20 : Option Nat → Int32 → Int32 → Me → Option (Int32 × Me)) (l0 : Option Nat) (l1 : Int32) (l2 : Int32) (σ : Me) : Option (Int32 × Me) :=
  K20 l0 l1 (l2 + (1 : Int32)) σ
def fc11_fitDebts_168 (N : Nat) (K20 : Option Nat → Int32 → Int32 → Me → Option (Int32 × Me)) (K69 : Option Nat → Int32 → Int32 → Int32 → Int32 → Me → Option (Int32 × Me)) (l0 : Option Nat) (l1 : Int32) (l2 : Int32) (l3 : Int32) (l4 : Int32) (s0 : Option Nat) (s1 : Int32) (s2 : Int32) (σ : Me) : Option (Int32 × Me) :=
  (stZ σ s0 s1 s2).bind fun σ168 =>
  K69 l0 l1 l2 l3 (l4 + (1 : Int32)) σ168
def fc11_fitDebts_167 (N : Nat) (K20 : Option Nat → Int32 → Int32 → Me → Option (Int32 × Me)) (K69 : Option Nat → Int32 → Int32 → Int32 → Int32 → Me → Option (Int32 × Me)) (l0 : Option Nat) (l1 : Int32) (l2 : Int32) (l3 : Int32) (l4 : Int32) (s0 : Option Nat) (s1 : Int32) (σ : Me) : Option (Int32 × Me) :=
  fc11_fitDebts_168 N K20 K69 l0 l1 l2 l3 l4 s0 s1 (0 : Int32) σ
def fc11_fitDebts_125 (N : Nat) (K20 : Option Nat → Int32 → Int32 → Me → Option (Int32 × Me)) (K69 : Option Nat → Int32 → Int32 → Int32 → Int32 → Me → Option (Int32 × Me)) (l0 : Option Nat) (l1 : Int32) (l2 : Int32) (l3 : Int32) (l4 : Int32) (s0 : Int32) (σ : Me) : Option (Int32 × Me) :=
  (qR σ 11 15 l0).bind fun v128 =>
  (qR σ 1 5 v128).bind fun v131 =>
  (qR σ 11 15 l0).bind fun v137 =>
  (qR σ 1 5 v137).bind fun v140 =>
  (ldZ σ v140 l4).bind fun v145 =>
  if v145 = 0 then
    fc11_fitDebts_167 N K20 K69 l0 l1 l2 l3 l4 v131 l4 σ
  else
    (qR σ 11 15 l0).bind fun v152 =>
    (qR σ 1 3 v152).bind fun v155 =>
    (ldZ σ v155 l2).bind fun v159 =>
    if s0 = v159 then
      fc11_fitDebts_168 N K20 K69 l0 l1 l2 l3 l4 v131 l4 (1 : Int32) σ
    else
      fc11_fitDebts_167 N K20 K69 l0 l1 l2 l3 l4 v131 l4 σ
def fc11_fitDebts_69 (N : Nat) (K20 : Option Nat → Int32 → Int32 → Me → Option (Int32 × Me)) : Nat → Option Nat → Int32 → Int32 → Int32 → Int32 → Me → Option (Int32 × Me)
  | 0, _, _, _, _, _, _ => none
  | n + 1, l0, l1, l2, l3, l4, σ =>
    if (99 : Int32) < l4 then
      fc11_fitDebts_175 N K20 l0 l1 l2 σ
    else
      (qR σ 11 11 l0).bind fun v77 =>
      (qR σ 2 0 v77).bind fun v80 =>
      (stI σ v80 l1 l4).bind fun σ86 =>
      (qR σ86 11 12 l0).bind fun v88 =>
      (qR σ86 11 11 l0).bind fun v92 =>
      (dr σ86 v88 (.inl 9)).bind fun a =>
      (fc9_weigh N a v92 l1 σ86).bind fun p96 =>
      (qR p96.2 11 12 l0).bind fun v100 =>
      (dr p96.2 v100 (.inl 9)).bind fun a =>
      (fc9_fallOn N a l1 l3 p96.2).bind fun p105 =>
      (qR p105.2 11 15 l0).bind fun v109 =>
      (qR p105.2 1 2 v109).bind fun v112 =>
      (ldI p105.2 v112 l2).bind fun v116 =>
      if p105.1 < v116 then
        fc11_fitDebts_125 N K20 (fc11_fitDebts_69 N K20 n) l0 l1 l2 l3 l4 (0 : Int32) p105.2
      else
        fc11_fitDebts_125 N K20 (fc11_fitDebts_69 N K20 n) l0 l1 l2 l3 l4 (1 : Int32) p105.2
def fc11_fitDebts_20 (N : Nat) : Nat → Option Nat → Int32 → Int32 → Me → Option (Int32 × Me)
  | 0, _, _, _, _ => none
  | n + 1, l0, l1, l2, σ =>
    (qR σ 11 15 l0).bind fun v22 =>
    (qI σ 1 4 v22).bind fun v25 =>
    if v25 ≤ l2 then
      (qR σ 11 15 l0).bind fun v182 =>
      (dr σ v182 (.inl 1)).bind fun a =>
      (fc1_listAllowed N a σ).bind fun p185 =>
      some (p185.1, p185.2)
    else
      (qR σ 11 15 l0).bind fun v32 =>
      (qR σ 1 0 v32).bind fun v35 =>
      (ldI σ v35 l2).bind fun v39 =>
      if v39 = l1 then
        (qR σ 11 15 l0).bind fun v45 =>
        (qR σ 1 1 v45).bind fun v48 =>
        (ldI σ v48 l2).bind fun v52 =>
        (qR σ 11 12 l0).bind fun v55 =>
        (qR σ 11 11 l0).bind fun v59 =>
        (dr σ v55 (.inl 9)).bind fun a =>
        (fc9_weighAll N a v59 v52 σ).bind fun p63 =>
        fc11_fitDebts_69 N (fc11_fitDebts_20 N n) N l0 l1 l2 v52 (0 : Int32) p63.2
      else
        fc11_fitDebts_175 N (fc11_fitDebts_20 N n) l0 l1 l2 σ
def fc11_fitDebts (N : Nat) (a0 : Nat) (x1 : Int32) (σ : Me) : Option (Int32 × Me) :=
  (qR σ 11 11 (some a0)).bind fun v1 =>
  (qR σ 11 10 (some a0)).bind fun v5 =>
  (dr σ v1 (.inl 2)).bind fun a =>
  (fc2_copyFrom N a v5 σ).bind fun p8 =>
  (qR p8.2 11 15 (some a0)).bind fun v12 =>
  (dr p8.2 v12 (.inl 1)).bind fun a =>
  (fc1_allowAll N a p8.2).bind fun p15 =>
  fc11_fitDebts_20 N N (some a0) x1 (0 : Int32) p15.2
set_option maxRecDepth 20000 in
set_option maxHeartbeats 2000000 in
theorem pc11_fitDebts_175 {Ω : Om} {Γ : Ga} {N : Nat} (hG : Good Ω Γ tc11_fitDebts 5 0 0) {K20 : Option Nat → Int32 → Int32 → Me → Option (Int32 × Me)} (hK20 : ∀ (l0 : Option Nat) (l1 : Int32) (l2 : Int32) (σ : Me), Sim Ω Γ 0 0 ιI 6 20 [(0, vR l0), (1, vI l1), (2, vI l2)] [] σ 0 0 (K20 l0 l1 l2 σ)) (l0 : Option Nat) (l1 : Int32) (l2 : Int32) (σ : Me) : Sim Ω Γ 0 0 ιI 6 175 [(0, vR l0), (1, vI l1), (2, vI l2)] [] σ 0 0 (fc11_fitDebts_175 N K20 l0 l1 l2 σ) := by
  unfold fc11_fitDebts_175
  refine s_iinc (v := 1) hG dc11_fitDebts_175 rfl (by decide) (by decide) ?_
  refine s_goto hG 20 dc11_fitDebts_178 (by decide) ?_
  exact s_lv (lc rfl (lc rfl (lc rfl ln))) (hK20 _ _ _ _)
set_option maxRecDepth 20000 in
set_option maxHeartbeats 2000000 in
theorem pc11_fitDebts_168 {Ω : Om} {Γ : Ga} {N : Nat} (hG : Good Ω Γ tc11_fitDebts 5 0 0) {K20 : Option Nat → Int32 → Int32 → Me → Option (Int32 × Me)} {K69 : Option Nat → Int32 → Int32 → Int32 → Int32 → Me → Option (Int32 × Me)} (hK20 : ∀ (l0 : Option Nat) (l1 : Int32) (l2 : Int32) (σ : Me), Sim Ω Γ 0 0 ιI 6 20 [(0, vR l0), (1, vI l1), (2, vI l2)] [] σ 0 0 (K20 l0 l1 l2 σ)) (hK69 : ∀ (l0 : Option Nat) (l1 : Int32) (l2 : Int32) (l3 : Int32) (l4 : Int32) (σ : Me), Sim Ω Γ 0 0 ιI 6 69 [(0, vR l0), (1, vI l1), (2, vI l2), (3, vI l3), (4, vI l4)] [] σ 0 0 (K69 l0 l1 l2 l3 l4 σ)) (l0 : Option Nat) (l1 : Int32) (l2 : Int32) (l3 : Int32) (l4 : Int32) (s0 : Option Nat) (s1 : Int32) (s2 : Int32) (σ : Me) : Sim Ω Γ 0 0 ιI 6 168 [(0, vR l0), (1, vI l1), (2, vI l2), (3, vI l3), (4, vI l4)] [vI s2, vI s1, vR s0] σ 0 0 (fc11_fitDebts_168 N K20 K69 l0 l1 l2 l3 l4 s0 s1 s2 σ) := by
  unfold fc11_fitDebts_168
  refine s_zast hG dc11_fitDebts_168 (fun σ168 => ?_)
  refine s_iinc (v := 1) hG dc11_fitDebts_169 rfl (by decide) (by decide) ?_
  refine s_goto hG 69 dc11_fitDebts_172 (by decide) ?_
  exact s_lv (lc rfl (lc rfl (lc rfl (lc rfl (lc rfl ln))))) (hK69 _ _ _ _ _ _)
set_option maxRecDepth 20000 in
set_option maxHeartbeats 2000000 in
theorem pc11_fitDebts_167 {Ω : Om} {Γ : Ga} {N : Nat} (hG : Good Ω Γ tc11_fitDebts 5 0 0) {K20 : Option Nat → Int32 → Int32 → Me → Option (Int32 × Me)} {K69 : Option Nat → Int32 → Int32 → Int32 → Int32 → Me → Option (Int32 × Me)} (hK20 : ∀ (l0 : Option Nat) (l1 : Int32) (l2 : Int32) (σ : Me), Sim Ω Γ 0 0 ιI 6 20 [(0, vR l0), (1, vI l1), (2, vI l2)] [] σ 0 0 (K20 l0 l1 l2 σ)) (hK69 : ∀ (l0 : Option Nat) (l1 : Int32) (l2 : Int32) (l3 : Int32) (l4 : Int32) (σ : Me), Sim Ω Γ 0 0 ιI 6 69 [(0, vR l0), (1, vI l1), (2, vI l2), (3, vI l3), (4, vI l4)] [] σ 0 0 (K69 l0 l1 l2 l3 l4 σ)) (l0 : Option Nat) (l1 : Int32) (l2 : Int32) (l3 : Int32) (l4 : Int32) (s0 : Option Nat) (s1 : Int32) (σ : Me) : Sim Ω Γ 0 0 ιI 6 167 [(0, vR l0), (1, vI l1), (2, vI l2), (3, vI l3), (4, vI l4)] [vI s1, vR s0] σ 0 0 (fc11_fitDebts_167 N K20 K69 l0 l1 l2 l3 l4 s0 s1 σ) := by
  unfold fc11_fitDebts_167
  refine s_iconst (v := 0) hG dc11_fitDebts_167 (by decide) ?_
  exact s_lv (lc rfl (lc rfl (lc rfl (lc rfl (lc rfl ln))))) (pc11_fitDebts_168 hG hK20 hK69 _ _ _ _ _ _ _ _ _)
set_option maxRecDepth 20000 in
set_option maxHeartbeats 2000000 in
theorem pc11_fitDebts_125 {Ω : Om} {Γ : Ga} {N : Nat} (hG : Good Ω Γ tc11_fitDebts 5 0 0) {K20 : Option Nat → Int32 → Int32 → Me → Option (Int32 × Me)} {K69 : Option Nat → Int32 → Int32 → Int32 → Int32 → Me → Option (Int32 × Me)} (hK20 : ∀ (l0 : Option Nat) (l1 : Int32) (l2 : Int32) (σ : Me), Sim Ω Γ 0 0 ιI 6 20 [(0, vR l0), (1, vI l1), (2, vI l2)] [] σ 0 0 (K20 l0 l1 l2 σ)) (hK69 : ∀ (l0 : Option Nat) (l1 : Int32) (l2 : Int32) (l3 : Int32) (l4 : Int32) (σ : Me), Sim Ω Γ 0 0 ιI 6 69 [(0, vR l0), (1, vI l1), (2, vI l2), (3, vI l3), (4, vI l4)] [] σ 0 0 (K69 l0 l1 l2 l3 l4 σ)) (l0 : Option Nat) (l1 : Int32) (l2 : Int32) (l3 : Int32) (l4 : Int32) (s0 : Int32) (σ : Me) : Sim Ω Γ 0 0 ιI 6 125 [(0, vR l0), (1, vI l1), (2, vI l2), (3, vI l3), (4, vI l4)] [vI s0] σ 0 0 (fc11_fitDebts_125 N K20 K69 l0 l1 l2 l3 l4 s0 σ) := by
  unfold fc11_fitDebts_125
  refine s_istore hG dc11_fitDebts_125 (by decide) ?_
  refine s_aload_n hG dc11_fitDebts_127 rfl ?_
  refine s_getR hG kFc11_89 rfl dc11_fitDebts_128 (fun v128 => ?_)
  refine s_getR hG kFc11_401 rfl dc11_fitDebts_131 (fun v131 => ?_)
  refine s_iload hG dc11_fitDebts_134 rfl ?_
  refine s_aload_n hG dc11_fitDebts_136 rfl ?_
  refine s_getR hG kFc11_89 rfl dc11_fitDebts_137 (fun v137 => ?_)
  refine s_getR hG kFc11_401 rfl dc11_fitDebts_140 (fun v140 => ?_)
  refine s_iload hG dc11_fitDebts_143 rfl ?_
  refine s_zald hG dc11_fitDebts_145 (fun v145 => ?_)
  refine s_if_eq hG 167 dc11_fitDebts_146 (by decide) ?_ ?_
  · exact s_lv (lc rfl (lc rfl (lc rfl (lc rfl (lc rfl ln))))) (pc11_fitDebts_167 hG hK20 hK69 _ _ _ _ _ _ _ _)
  · refine s_iload hG dc11_fitDebts_149 rfl ?_
    refine s_aload_n hG dc11_fitDebts_151 rfl ?_
    refine s_getR hG kFc11_89 rfl dc11_fitDebts_152 (fun v152 => ?_)
    refine s_getR hG kFc11_405 rfl dc11_fitDebts_155 (fun v155 => ?_)
    refine s_iload_n hG dc11_fitDebts_158 rfl ?_
    refine s_zald hG dc11_fitDebts_159 (fun v159 => ?_)
    refine s_icmp_ne hG 167 dc11_fitDebts_160 (by decide) ?_ ?_
    · exact s_lv (lc rfl (lc rfl (lc rfl (lc rfl (lc rfl ln))))) (pc11_fitDebts_167 hG hK20 hK69 _ _ _ _ _ _ _ _)
    · refine s_iconst (v := 1) hG dc11_fitDebts_163 (by decide) ?_
      refine s_goto hG 168 dc11_fitDebts_164 (by decide) ?_
      exact s_lv (lc rfl (lc rfl (lc rfl (lc rfl (lc rfl ln))))) (pc11_fitDebts_168 hG hK20 hK69 _ _ _ _ _ _ _ _ _)
set_option maxRecDepth 20000 in
set_option maxHeartbeats 2000000 in
theorem pc11_fitDebts_69 {Ω : Om} {Γ : Ga} {N : Nat} (hG : Good Ω Γ tc11_fitDebts 5 0 0) {K20 : Option Nat → Int32 → Int32 → Me → Option (Int32 × Me)} (hK20 : ∀ (l0 : Option Nat) (l1 : Int32) (l2 : Int32) (σ : Me), Sim Ω Γ 0 0 ιI 6 20 [(0, vR l0), (1, vI l1), (2, vI l2)] [] σ 0 0 (K20 l0 l1 l2 σ))  : ∀ (n : Nat) (l0 : Option Nat) (l1 : Int32) (l2 : Int32) (l3 : Int32) (l4 : Int32) (σ : Me), Sim Ω Γ 0 0 ιI 6 69 [(0, vR l0), (1, vI l1), (2, vI l2), (3, vI l3), (4, vI l4)] [] σ 0 0 (fc11_fitDebts_69 N K20 n l0 l1 l2 l3 l4 σ) := by
  intro n
  induction n with
  | zero => intros; exact s_none
  | succ n ih =>
    intro l0 l1 l2 l3 l4 σ
    unfold fc11_fitDebts_69
    refine s_iload hG dc11_fitDebts_69 rfl ?_
    refine s_bipush (v := 99) hG dc11_fitDebts_71 (by decide) ?_
    refine s_icmp_gt hG 175 dc11_fitDebts_73 (by decide) ?_ ?_
    · exact s_lv (lc rfl (lc rfl (lc rfl ln))) (pc11_fitDebts_175 hG hK20 _ _ _ _)
    · refine s_aload_n hG dc11_fitDebts_76 rfl ?_
      refine s_getR hG kFc11_62 rfl dc11_fitDebts_77 (fun v77 => ?_)
      refine s_getR hG kFc11_186 rfl dc11_fitDebts_80 (fun v80 => ?_)
      refine s_iload_n hG dc11_fitDebts_83 rfl ?_
      refine s_iload hG dc11_fitDebts_84 rfl ?_
      refine s_iast hG dc11_fitDebts_86 (fun σ86 => ?_)
      refine s_aload_n hG dc11_fitDebts_87 rfl ?_
      refine s_getR hG kFc11_68 rfl dc11_fitDebts_88 (fun v88 => ?_)
      refine s_aload_n hG dc11_fitDebts_91 rfl ?_
      refine s_getR hG kFc11_62 rfl dc11_fitDebts_92 (fun v92 => ?_)
      refine s_iload_n hG dc11_fitDebts_95 rfl ?_
      refine s_callVv hG kMc11_351 (fun a => corc9_weigh N a _ _ _) ⟨by decide, rfl⟩ rfl (by first | decide | omega) dc11_fitDebts_96 rfl rfl (Nat.le_of_ble_eq_true rfl) ⟨Nat.le_of_ble_eq_true rfl, Nat.le_of_ble_eq_true rfl⟩ (fun p96 => ?_)
      refine s_aload_n hG dc11_fitDebts_99 rfl ?_
      refine s_getR hG kFc11_68 rfl dc11_fitDebts_100 (fun v100 => ?_)
      refine s_iload_n hG dc11_fitDebts_103 rfl ?_
      refine s_iload_n hG dc11_fitDebts_104 rfl ?_
      refine s_callVi hG kMc11_395 (fun a => corc9_fallOn N a _ _ _) ⟨by decide, rfl⟩ rfl (by first | decide | omega) dc11_fitDebts_105 rfl rfl (Nat.le_of_ble_eq_true rfl) ⟨Nat.le_of_ble_eq_true rfl, Nat.le_of_ble_eq_true rfl⟩ (fun p105 => ?_)
      refine s_aload_n hG dc11_fitDebts_108 rfl ?_
      refine s_getR hG kFc11_89 rfl dc11_fitDebts_109 (fun v109 => ?_)
      refine s_getR hG kFc11_398 rfl dc11_fitDebts_112 (fun v112 => ?_)
      refine s_iload_n hG dc11_fitDebts_115 rfl ?_
      refine s_iald hG dc11_fitDebts_116 (fun v116 => ?_)
      refine s_icmp_lt hG 124 dc11_fitDebts_117 (by decide) ?_ ?_
      · refine s_iconst (v := 0) hG dc11_fitDebts_124 (by decide) ?_
        exact s_lv (lc rfl (lc rfl (lc rfl (lc rfl (lc rfl ln))))) (pc11_fitDebts_125 hG hK20 ih _ _ _ _ _ _ _)
      · refine s_iconst (v := 1) hG dc11_fitDebts_120 (by decide) ?_
        refine s_goto hG 125 dc11_fitDebts_121 (by decide) ?_
        exact s_lv (lc rfl (lc rfl (lc rfl (lc rfl (lc rfl ln))))) (pc11_fitDebts_125 hG hK20 ih _ _ _ _ _ _ _)
set_option maxRecDepth 20000 in
set_option maxHeartbeats 2000000 in
theorem pc11_fitDebts_20 {Ω : Om} {Γ : Ga} {N : Nat} (hG : Good Ω Γ tc11_fitDebts 5 0 0)  : ∀ (n : Nat) (l0 : Option Nat) (l1 : Int32) (l2 : Int32) (σ : Me), Sim Ω Γ 0 0 ιI 6 20 [(0, vR l0), (1, vI l1), (2, vI l2)] [] σ 0 0 (fc11_fitDebts_20 N n l0 l1 l2 σ) := by
  intro n
  induction n with
  | zero => intros; exact s_none
  | succ n ih =>
    intro l0 l1 l2 σ
    unfold fc11_fitDebts_20
    refine s_iload_n hG dc11_fitDebts_20 rfl ?_
    refine s_aload_n hG dc11_fitDebts_21 rfl ?_
    refine s_getR hG kFc11_89 rfl dc11_fitDebts_22 (fun v22 => ?_)
    refine s_getI hG kFc11_151 rfl dc11_fitDebts_25 (fun v25 => ?_)
    refine s_icmp_ge hG 181 dc11_fitDebts_28 (by decide) ?_ ?_
    · refine s_aload_n hG dc11_fitDebts_181 rfl ?_
      refine s_getR hG kFc11_89 rfl dc11_fitDebts_182 (fun v182 => ?_)
      refine s_callVi hG kMc11_408 (fun a => corc1_listAllowed N a _) ⟨by decide, rfl⟩ rfl (by first | decide | omega) dc11_fitDebts_185 rfl rfl (Nat.le_of_ble_eq_true rfl) ⟨Nat.le_of_ble_eq_true rfl, Nat.le_of_ble_eq_true rfl⟩ (fun p185 => ?_)
      exact s_iret hG dc11_fitDebts_188 rfl (Nat.le_of_ble_eq_true rfl) (Nat.le_of_ble_eq_true rfl)
    · refine s_aload_n hG dc11_fitDebts_31 rfl ?_
      refine s_getR hG kFc11_89 rfl dc11_fitDebts_32 (fun v32 => ?_)
      refine s_getR hG kFc11_386 rfl dc11_fitDebts_35 (fun v35 => ?_)
      refine s_iload_n hG dc11_fitDebts_38 rfl ?_
      refine s_iald hG dc11_fitDebts_39 (fun v39 => ?_)
      refine s_iload_n hG dc11_fitDebts_40 rfl ?_
      refine s_icmp_ne hG 175 dc11_fitDebts_41 (by decide) ?_ ?_
      · exact s_lv (lc rfl (lc rfl (lc rfl ln))) (pc11_fitDebts_175 hG ih _ _ _ _)
      · refine s_aload_n hG dc11_fitDebts_44 rfl ?_
        refine s_getR hG kFc11_89 rfl dc11_fitDebts_45 (fun v45 => ?_)
        refine s_getR hG kFc11_389 rfl dc11_fitDebts_48 (fun v48 => ?_)
        refine s_iload_n hG dc11_fitDebts_51 rfl ?_
        refine s_iald hG dc11_fitDebts_52 (fun v52 => ?_)
        refine s_istore_n hG dc11_fitDebts_53 (by decide) ?_
        refine s_aload_n hG dc11_fitDebts_54 rfl ?_
        refine s_getR hG kFc11_68 rfl dc11_fitDebts_55 (fun v55 => ?_)
        refine s_aload_n hG dc11_fitDebts_58 rfl ?_
        refine s_getR hG kFc11_62 rfl dc11_fitDebts_59 (fun v59 => ?_)
        refine s_iload_n hG dc11_fitDebts_62 rfl ?_
        refine s_callVv hG kMc11_392 (fun a => corc9_weighAll N a _ _ _) ⟨by decide, rfl⟩ rfl (by first | decide | omega) dc11_fitDebts_63 rfl rfl (Nat.le_of_ble_eq_true rfl) ⟨Nat.le_of_ble_eq_true rfl, Nat.le_of_ble_eq_true rfl⟩ (fun p63 => ?_)
        refine s_iconst (v := 0) hG dc11_fitDebts_66 (by decide) ?_
        refine s_istore hG dc11_fitDebts_67 (by decide) ?_
        exact s_lv (lc rfl (lc rfl (lc rfl (lc rfl (lc rfl ln))))) (pc11_fitDebts_69 hG ih _ _ _ _ _ _ _)
set_option maxRecDepth 20000 in
set_option maxHeartbeats 2000000 in
theorem corc11_fitDebts {Ω : Om} (N : Nat) (a0 : Nat) (x1 : Int32) (σ : Me) : Cor Ω tc11_fitDebts 5 0 0 [vR (some a0), vI x1] σ ιI (fc11_fitDebts N a0 x1 σ) := by
  refine Cor.of (by decide +kernel) (Nat.le_of_ble_eq_true rfl) (fun Γ hG => ?_)
  unfold fc11_fitDebts
  show Sim Ω Γ 0 0 ιI 6 0 [(0, vR (some a0)), (1, vI x1)] [] σ 0 0 _
  refine s_aload_n hG dc11_fitDebts_0 rfl ?_
  refine s_getR hG kFc11_62 rfl dc11_fitDebts_1 (fun v1 => ?_)
  refine s_aload_n hG dc11_fitDebts_4 rfl ?_
  refine s_getR hG kFc11_58 rfl dc11_fitDebts_5 (fun v5 => ?_)
  refine s_callVv hG kMc11_140 (fun a => corc2_copyFrom N a _ _) ⟨by decide, rfl⟩ rfl (by first | decide | omega) dc11_fitDebts_8 rfl rfl (Nat.le_of_ble_eq_true rfl) ⟨Nat.le_of_ble_eq_true rfl, Nat.le_of_ble_eq_true rfl⟩ (fun p8 => ?_)
  refine s_aload_n hG dc11_fitDebts_11 rfl ?_
  refine s_getR hG kFc11_89 rfl dc11_fitDebts_12 (fun v12 => ?_)
  refine s_callVv hG kMc11_383 (fun a => corc1_allowAll N a _) ⟨by decide, rfl⟩ rfl (by first | decide | omega) dc11_fitDebts_15 rfl rfl (Nat.le_of_ble_eq_true rfl) ⟨Nat.le_of_ble_eq_true rfl, Nat.le_of_ble_eq_true rfl⟩ (fun p15 => ?_)
  refine s_iconst (v := 0) hG dc11_fitDebts_18 (by decide) ?_
  refine s_istore_n hG dc11_fitDebts_19 (by decide) ?_
  exact s_lv (lc rfl (lc rfl (lc rfl ln))) (pc11_fitDebts_20 hG _ _ _ _ _)
def fc11_debts (N : Nat) (a0 : Nat) (x1 : Int32) (x2 : Int32) (σ : Me) : Option (Int32 × Me) :=
  (qR σ 11 10 (some a0)).bind fun v1 =>
  (dr σ v1 (.inl 2)).bind fun a =>
  (fc2_has N a x1 σ).bind fun p5 =>
  if p5.1 = 0 then
    some ((-1 : Int32), p5.2)
  else
    if (-1 : Int32) ≤ x2 then
      (dr p5.2 (some a0) (.inl 11)).bind fun a =>
      (fc11_fitDebts N a x1 p5.2).bind fun p20 =>
      if x2 = (-1 : Int32) then
        some (p20.1, p20.2)
      else
        if p20.1 ≤ x2 then
          some ((-1 : Int32), p20.2)
        else
          (qR p20.2 11 15 (some a0)).bind fun v37 =>
          (qR p20.2 1 6 v37).bind fun v40 =>
          (ldI p20.2 v40 x2).bind fun v44 =>
          some (v44, p20.2)
    else
      some ((-1 : Int32), p5.2)
set_option maxRecDepth 20000 in
set_option maxHeartbeats 2000000 in
theorem corc11_debts {Ω : Om} (N : Nat) (a0 : Nat) (x1 : Int32) (x2 : Int32) (σ : Me) : Cor Ω tc11_debts 6 0 0 [vR (some a0), vI x1, vI x2] σ ιI (fc11_debts N a0 x1 x2 σ) := by
  refine Cor.of (by decide +kernel) (Nat.le_of_ble_eq_true rfl) (fun Γ hG => ?_)
  unfold fc11_debts
  show Sim Ω Γ 0 0 ιI 4 0 [(0, vR (some a0)), (1, vI x1), (2, vI x2)] [] σ 0 0 _
  refine s_aload_n hG dc11_debts_0 rfl ?_
  refine s_getR hG kFc11_58 rfl dc11_debts_1 (fun v1 => ?_)
  refine s_iload_n hG dc11_debts_4 rfl ?_
  refine s_callVi hG kMc11_180 (fun a => corc2_has N a _ _) ⟨by decide, rfl⟩ rfl (by first | decide | omega) dc11_debts_5 rfl rfl (Nat.le_of_ble_eq_true rfl) ⟨Nat.le_of_ble_eq_true rfl, Nat.le_of_ble_eq_true rfl⟩ (fun p5 => ?_)
  refine s_if_eq hG 16 dc11_debts_8 (by decide) ?_ ?_
  · refine s_iconst (v := -1) hG dc11_debts_16 (by decide) ?_
    exact s_iret hG dc11_debts_17 rfl (Nat.le_of_ble_eq_true rfl) (Nat.le_of_ble_eq_true rfl)
  · refine s_iload_n hG dc11_debts_11 rfl ?_
    refine s_iconst (v := -1) hG dc11_debts_12 (by decide) ?_
    refine s_icmp_ge hG 18 dc11_debts_13 (by decide) ?_ ?_
    · refine s_aload_n hG dc11_debts_18 rfl ?_
      refine s_iload_n hG dc11_debts_19 rfl ?_
      refine s_callVi hG kMc11_377 (fun a => corc11_fitDebts N a _ _) ⟨by decide, rfl⟩ rfl (by first | decide | omega) dc11_debts_20 rfl rfl (Nat.le_of_ble_eq_true rfl) ⟨Nat.le_of_ble_eq_true rfl, Nat.le_of_ble_eq_true rfl⟩ (fun p20 => ?_)
      refine s_istore_n hG dc11_debts_23 (by decide) ?_
      refine s_iload_n hG dc11_debts_24 rfl ?_
      refine s_iconst (v := -1) hG dc11_debts_25 (by decide) ?_
      refine s_icmp_ne hG 31 dc11_debts_26 (by decide) ?_ ?_
      · refine s_iload_n hG dc11_debts_31 rfl ?_
        refine s_iload_n hG dc11_debts_32 rfl ?_
        refine s_icmp_ge hG 48 dc11_debts_33 (by decide) ?_ ?_
        · refine s_iconst (v := -1) hG dc11_debts_48 (by decide) ?_
          exact s_iret hG dc11_debts_49 rfl (Nat.le_of_ble_eq_true rfl) (Nat.le_of_ble_eq_true rfl)
        · refine s_aload_n hG dc11_debts_36 rfl ?_
          refine s_getR hG kFc11_89 rfl dc11_debts_37 (fun v37 => ?_)
          refine s_getR hG kFc11_380 rfl dc11_debts_40 (fun v40 => ?_)
          refine s_iload_n hG dc11_debts_43 rfl ?_
          refine s_iald hG dc11_debts_44 (fun v44 => ?_)
          refine s_goto hG 49 dc11_debts_45 (by decide) ?_
          exact s_iret hG dc11_debts_49 rfl (Nat.le_of_ble_eq_true rfl) (Nat.le_of_ble_eq_true rfl)
      · refine s_iload_n hG dc11_debts_29 rfl ?_
        exact s_iret hG dc11_debts_30 rfl (Nat.le_of_ble_eq_true rfl) (Nat.le_of_ble_eq_true rfl)
    · refine s_iconst (v := -1) hG dc11_debts_16 (by decide) ?_
      exact s_iret hG dc11_debts_17 rfl (Nat.le_of_ble_eq_true rfl) (Nat.le_of_ble_eq_true rfl)
def fMt_abs (N : Nat) (x0 : Int32) (σ : Me) : Option (Int32 × Me) :=
  if 0 ≤ x0 then
    some (x0, σ)
  else
    some ((-x0), σ)
set_option maxRecDepth 20000 in
set_option maxHeartbeats 2000000 in
theorem corMt_abs {Ω : Om} (N : Nat) (x0 : Int32) (σ : Me) : Cor Ω tMt_abs 1 0 0 [vI x0] σ ιI (fMt_abs N x0 σ) := by
  refine Cor.of (by decide +kernel) (Nat.le_of_ble_eq_true rfl) (fun Γ hG => ?_)
  unfold fMt_abs
  show Sim Ω Γ 0 0 ιI 1 0 [(0, vI x0)] [] σ 0 0 _
  refine s_iload_n hG dMt_abs_0 rfl ?_
  refine s_if_ge hG 9 dMt_abs_1 (by decide) ?_ ?_
  · refine s_iload_n hG dMt_abs_9 rfl ?_
    exact s_iret hG dMt_abs_10 rfl (Nat.le_of_ble_eq_true rfl) (Nat.le_of_ble_eq_true rfl)
  · refine s_iload_n hG dMt_abs_4 rfl ?_
    refine s_ineg hG dMt_abs_5 ?_
    refine s_goto hG 10 dMt_abs_6 (by decide) ?_
    exact s_iret hG dMt_abs_10 rfl (Nat.le_of_ble_eq_true rfl) (Nat.le_of_ble_eq_true rfl)
def fc11_countYes_67 (N : Nat) (K6 : Option Nat → Int32 → Int32 → Int32 → Int32 → Int32 → Int32 → Me → Option (Int32 × Me)) (l0 : Option Nat) (l1 : Int32) (l2 : Int32) (l3 : Int32) (l4 : Int32) (l5 : Int32) (l6 : Int32) (σ : Me) : Option (Int32 × Me) :=
  K6 l0 l1 l2 l3 l4 l5 (l6 + (1 : Int32)) σ
def fc11_countYes_6 (N : Nat) : Nat → Option Nat → Int32 → Int32 → Int32 → Int32 → Int32 → Int32 → Me → Option (Int32 × Me)
  | 0, _, _, _, _, _, _, _, _ => none
  | n + 1, l0, l1, l2, l3, l4, l5, l6, σ =>
    if l4 ≤ l6 then
      some (l5, σ)
    else
      (qR σ 11 12 l0).bind fun v14 =>
      (qR σ 9 1 v14).bind fun v17 =>
      (qR σ 11 15 l0).bind fun v22 =>
      (qR σ 1 7 v22).bind fun v25 =>
      (ldI σ v25 l6).bind fun v30 =>
      (stI σ v17 l1 v30).bind fun σ31 =>
      (qR σ31 11 12 l0).bind fun v33 =>
      (qR σ31 9 2 v33).bind fun v36 =>
      (qR σ31 11 15 l0).bind fun v41 =>
      (qR σ31 1 8 v41).bind fun v44 =>
      (ldI σ31 v44 l6).bind fun v49 =>
      (stI σ31 v36 l1 v49).bind fun σ50 =>
      (qR σ50 11 12 l0).bind fun v52 =>
      (dr σ50 v52 (.inl 9)).bind fun a =>
      (fc9_fallOn N a l1 l2 σ50).bind fun p57 =>
      if p57.1 < l3 then
        fc11_countYes_67 N (fc11_countYes_6 N n) l0 l1 l2 l3 l4 l5 l6 p57.2
      else
        fc11_countYes_67 N (fc11_countYes_6 N n) l0 l1 l2 l3 l4 (l5 + (1 : Int32)) l6 p57.2
def fc11_countYes (N : Nat) (a0 : Nat) (x1 : Int32) (x2 : Int32) (x3 : Int32) (x4 : Int32) (σ : Me) : Option (Int32 × Me) :=
  fc11_countYes_6 N N (some a0) x1 x2 x3 x4 (0 : Int32) (0 : Int32) σ
set_option maxRecDepth 20000 in
set_option maxHeartbeats 2000000 in
theorem pc11_countYes_67 {Ω : Om} {Γ : Ga} {N : Nat} (hG : Good Ω Γ tc11_countYes 3 0 0) {K6 : Option Nat → Int32 → Int32 → Int32 → Int32 → Int32 → Int32 → Me → Option (Int32 × Me)} (hK6 : ∀ (l0 : Option Nat) (l1 : Int32) (l2 : Int32) (l3 : Int32) (l4 : Int32) (l5 : Int32) (l6 : Int32) (σ : Me), Sim Ω Γ 0 0 ιI 7 6 [(0, vR l0), (1, vI l1), (2, vI l2), (3, vI l3), (4, vI l4), (5, vI l5), (6, vI l6)] [] σ 0 0 (K6 l0 l1 l2 l3 l4 l5 l6 σ)) (l0 : Option Nat) (l1 : Int32) (l2 : Int32) (l3 : Int32) (l4 : Int32) (l5 : Int32) (l6 : Int32) (σ : Me) : Sim Ω Γ 0 0 ιI 7 67 [(0, vR l0), (1, vI l1), (2, vI l2), (3, vI l3), (4, vI l4), (5, vI l5), (6, vI l6)] [] σ 0 0 (fc11_countYes_67 N K6 l0 l1 l2 l3 l4 l5 l6 σ) := by
  unfold fc11_countYes_67
  refine s_iinc (v := 1) hG dc11_countYes_67 rfl (by decide) (by decide) ?_
  refine s_goto hG 6 dc11_countYes_70 (by decide) ?_
  exact s_lv (lc rfl (lc rfl (lc rfl (lc rfl (lc rfl (lc rfl (lc rfl ln))))))) (hK6 _ _ _ _ _ _ _ _)
set_option maxRecDepth 20000 in
set_option maxHeartbeats 2000000 in
theorem pc11_countYes_6 {Ω : Om} {Γ : Ga} {N : Nat} (hG : Good Ω Γ tc11_countYes 3 0 0)  : ∀ (n : Nat) (l0 : Option Nat) (l1 : Int32) (l2 : Int32) (l3 : Int32) (l4 : Int32) (l5 : Int32) (l6 : Int32) (σ : Me), Sim Ω Γ 0 0 ιI 7 6 [(0, vR l0), (1, vI l1), (2, vI l2), (3, vI l3), (4, vI l4), (5, vI l5), (6, vI l6)] [] σ 0 0 (fc11_countYes_6 N n l0 l1 l2 l3 l4 l5 l6 σ) := by
  intro n
  induction n with
  | zero => intros; exact s_none
  | succ n ih =>
    intro l0 l1 l2 l3 l4 l5 l6 σ
    unfold fc11_countYes_6
    refine s_iload hG dc11_countYes_6 rfl ?_
    refine s_iload hG dc11_countYes_8 rfl ?_
    refine s_icmp_ge hG 73 dc11_countYes_10 (by decide) ?_ ?_
    · refine s_iload hG dc11_countYes_73 rfl ?_
      exact s_iret hG dc11_countYes_75 rfl (Nat.le_of_ble_eq_true rfl) (Nat.le_of_ble_eq_true rfl)
    · refine s_aload_n hG dc11_countYes_13 rfl ?_
      refine s_getR hG kFc11_68 rfl dc11_countYes_14 (fun v14 => ?_)
      refine s_getR hG kFc11_426 rfl dc11_countYes_17 (fun v17 => ?_)
      refine s_iload_n hG dc11_countYes_20 rfl ?_
      refine s_aload_n hG dc11_countYes_21 rfl ?_
      refine s_getR hG kFc11_89 rfl dc11_countYes_22 (fun v22 => ?_)
      refine s_getR hG kFc11_423 rfl dc11_countYes_25 (fun v25 => ?_)
      refine s_iload hG dc11_countYes_28 rfl ?_
      refine s_iald hG dc11_countYes_30 (fun v30 => ?_)
      refine s_iast hG dc11_countYes_31 (fun σ31 => ?_)
      refine s_aload_n hG dc11_countYes_32 rfl ?_
      refine s_getR hG kFc11_68 rfl dc11_countYes_33 (fun v33 => ?_)
      refine s_getR hG kFc11_430 rfl dc11_countYes_36 (fun v36 => ?_)
      refine s_iload_n hG dc11_countYes_39 rfl ?_
      refine s_aload_n hG dc11_countYes_40 rfl ?_
      refine s_getR hG kFc11_89 rfl dc11_countYes_41 (fun v41 => ?_)
      refine s_getR hG kFc11_427 rfl dc11_countYes_44 (fun v44 => ?_)
      refine s_iload hG dc11_countYes_47 rfl ?_
      refine s_iald hG dc11_countYes_49 (fun v49 => ?_)
      refine s_iast hG dc11_countYes_50 (fun σ50 => ?_)
      refine s_aload_n hG dc11_countYes_51 rfl ?_
      refine s_getR hG kFc11_68 rfl dc11_countYes_52 (fun v52 => ?_)
      refine s_iload_n hG dc11_countYes_55 rfl ?_
      refine s_iload_n hG dc11_countYes_56 rfl ?_
      refine s_callVi hG kMc11_395 (fun a => corc9_fallOn N a _ _ _) ⟨by decide, rfl⟩ rfl (by first | decide | omega) dc11_countYes_57 rfl rfl (Nat.le_of_ble_eq_true rfl) ⟨Nat.le_of_ble_eq_true rfl, Nat.le_of_ble_eq_true rfl⟩ (fun p57 => ?_)
      refine s_iload_n hG dc11_countYes_60 rfl ?_
      refine s_icmp_lt hG 67 dc11_countYes_61 (by decide) ?_ ?_
      · exact s_lv (lc rfl (lc rfl (lc rfl (lc rfl (lc rfl (lc rfl (lc rfl ln))))))) (pc11_countYes_67 hG ih _ _ _ _ _ _ _ _)
      · refine s_iinc (v := 1) hG dc11_countYes_64 rfl (by decide) (by decide) ?_
        exact s_lv (lc rfl (lc rfl (lc rfl (lc rfl (lc rfl (lc rfl (lc rfl ln))))))) (pc11_countYes_67 hG ih _ _ _ _ _ _ _ _)
set_option maxRecDepth 20000 in
set_option maxHeartbeats 2000000 in
theorem corc11_countYes {Ω : Om} (N : Nat) (a0 : Nat) (x1 : Int32) (x2 : Int32) (x3 : Int32) (x4 : Int32) (σ : Me) : Cor Ω tc11_countYes 3 0 0 [vR (some a0), vI x1, vI x2, vI x3, vI x4] σ ιI (fc11_countYes N a0 x1 x2 x3 x4 σ) := by
  refine Cor.of (by decide +kernel) (Nat.le_of_ble_eq_true rfl) (fun Γ hG => ?_)
  unfold fc11_countYes
  show Sim Ω Γ 0 0 ιI 7 0 [(0, vR (some a0)), (1, vI x1), (2, vI x2), (3, vI x3), (4, vI x4)] [] σ 0 0 _
  refine s_iconst (v := 0) hG dc11_countYes_0 (by decide) ?_
  refine s_istore hG dc11_countYes_1 (by decide) ?_
  refine s_iconst (v := 0) hG dc11_countYes_3 (by decide) ?_
  refine s_istore hG dc11_countYes_4 (by decide) ?_
  exact s_lv (lc rfl (lc rfl (lc rfl (lc rfl (lc rfl (lc rfl (lc rfl ln))))))) (pc11_countYes_6 hG _ _ _ _ _ _ _ _ _)
