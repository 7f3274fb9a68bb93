def fc12_greatest_48 (N : Nat) (K5 : Option Nat → Int32 → Int32 → Int32 → Int32 → Me → Option (Int32 × Me)) (l0 : Option Nat) (l1 : Int32) (l2 : Int32) (l4 : Int32) (s0 : Int32) (σ : Me) : Option (Int32 × Me) :=
  K5 l0 l1 l2 s0 (l4 + (1 : Int32)) σ
def fc12_greatest_5 (N : Nat) : Nat → Option Nat → Int32 → Int32 → Int32 → Int32 → Me → Option (Int32 × Me)
  | 0, _, _, _, _, _, _ => none
  | n + 1, l0, l1, l2, l3, l4, σ =>
    (qI σ 12 24 l0).bind fun v8 =>
    if v8 ≤ l4 then
      some (l3, σ)
    else
      (qR σ 12 28 l0).bind fun v16 =>
      (ldI σ v16 (((4 : Int32) * l4) + l1)).bind fun v25 =>
      (qR σ 12 28 l0).bind fun v29 =>
      (ldI σ v29 (((4 : Int32) * l3) + l1)).bind fun v37 =>
      if (l2 * v25) ≤ (l2 * v37) then
        fc12_greatest_48 N (fc12_greatest_5 N n) l0 l1 l2 l4 l3 σ
      else
        fc12_greatest_48 N (fc12_greatest_5 N n) l0 l1 l2 l4 l4 σ
def fc12_greatest (N : Nat) (a0 : Nat) (x1 : Int32) (x2 : Int32) (σ : Me) : Option (Int32 × Me) :=
  fc12_greatest_5 N N (some a0) x1 x2 (0 : Int32) (1 : Int32) σ
set_option maxRecDepth 20000 in
set_option maxHeartbeats 2000000 in
theorem pc12_greatest_48 {Ω : Om} {Γ : Ga} {N : Nat} (hG : Good Ω Γ tc12_greatest 1 0 0) {K5 : Option Nat → Int32 → Int32 → Int32 → Int32 → Me → Option (Int32 × Me)} (hK5 : ∀ (l0 : Option Nat) (l1 : Int32) (l2 : Int32) (l3 : Int32) (l4 : Int32) (σ : Me), Sim Ω Γ 0 0 ιI 5 5 [(0, vR l0), (1, vI l1), (2, vI l2), (3, vI l3), (4, vI l4)] [] σ 0 0 (K5 l0 l1 l2 l3 l4 σ)) (l0 : Option Nat) (l1 : Int32) (l2 : Int32) (l4 : Int32) (s0 : Int32) (σ : Me) : Sim Ω Γ 0 0 ιI 5 48 [(0, vR l0), (1, vI l1), (2, vI l2), (4, vI l4)] [vI s0] σ 0 0 (fc12_greatest_48 N K5 l0 l1 l2 l4 s0 σ) := by
  unfold fc12_greatest_48
  refine s_istore_n hG dc12_greatest_48 (by decide) ?_
  refine s_iinc (v := 1) hG dc12_greatest_49 rfl (by decide) (by decide) ?_
  refine s_goto hG 5 dc12_greatest_52 (by decide) ?_
  exact s_lv (lc rfl (lc rfl (lc rfl (lc rfl (lc rfl ln))))) (hK5 _ _ _ _ _ _)
set_option maxRecDepth 20000 in
set_option maxHeartbeats 2000000 in
theorem pc12_greatest_5 {Ω : Om} {Γ : Ga} {N : Nat} (hG : Good Ω Γ tc12_greatest 1 0 0)  : ∀ (n : Nat) (l0 : Option Nat) (l1 : Int32) (l2 : Int32) (l3 : Int32) (l4 : Int32) (σ : Me), Sim Ω Γ 0 0 ιI 5 5 [(0, vR l0), (1, vI l1), (2, vI l2), (3, vI l3), (4, vI l4)] [] σ 0 0 (fc12_greatest_5 N n l0 l1 l2 l3 l4 σ) := by
  intro n
  induction n with
  | zero => intros; exact s_none
  | succ n ih =>
    intro l0 l1 l2 l3 l4 σ
    unfold fc12_greatest_5
    refine s_iload hG dc12_greatest_5 rfl ?_
    refine s_aload_n hG dc12_greatest_7 rfl ?_
    refine s_getI hG kFc12_290 rfl dc12_greatest_8 (fun v8 => ?_)
    refine s_icmp_ge hG 55 dc12_greatest_11 (by decide) ?_ ?_
    · refine s_iload_n hG dc12_greatest_55 rfl ?_
      exact s_iret hG dc12_greatest_56 rfl (Nat.le_of_ble_eq_true rfl) (Nat.le_of_ble_eq_true rfl)
    · refine s_iload_n hG dc12_greatest_14 rfl ?_
      refine s_aload_n hG dc12_greatest_15 rfl ?_
      refine s_getR hG kFc12_55 rfl dc12_greatest_16 (fun v16 => ?_)
      refine s_iconst (v := 4) hG dc12_greatest_19 (by decide) ?_
      refine s_iload hG dc12_greatest_20 rfl ?_
      refine s_imul hG dc12_greatest_22 ?_
      refine s_iload_n hG dc12_greatest_23 rfl ?_
      refine s_iadd hG dc12_greatest_24 ?_
      refine s_iald hG dc12_greatest_25 (fun v25 => ?_)
      refine s_imul hG dc12_greatest_26 ?_
      refine s_iload_n hG dc12_greatest_27 rfl ?_
      refine s_aload_n hG dc12_greatest_28 rfl ?_
      refine s_getR hG kFc12_55 rfl dc12_greatest_29 (fun v29 => ?_)
      refine s_iconst (v := 4) hG dc12_greatest_32 (by decide) ?_
      refine s_iload_n hG dc12_greatest_33 rfl ?_
      refine s_imul hG dc12_greatest_34 ?_
      refine s_iload_n hG dc12_greatest_35 rfl ?_
      refine s_iadd hG dc12_greatest_36 ?_
      refine s_iald hG dc12_greatest_37 (fun v37 => ?_)
      refine s_imul hG dc12_greatest_38 ?_
      refine s_icmp_le hG 47 dc12_greatest_39 (by decide) ?_ ?_
      · refine s_iload_n hG dc12_greatest_47 rfl ?_
        exact s_lv (lc rfl (lc rfl (lc rfl (lc rfl ln)))) (pc12_greatest_48 hG ih _ _ _ _ _ _)
      · refine s_iload hG dc12_greatest_42 rfl ?_
        refine s_goto hG 48 dc12_greatest_44 (by decide) ?_
        exact s_lv (lc rfl (lc rfl (lc rfl (lc rfl ln)))) (pc12_greatest_48 hG ih _ _ _ _ _ _)
set_option maxRecDepth 20000 in
set_option maxHeartbeats 2000000 in
theorem corc12_greatest {Ω : Om} (N : Nat) (a0 : Nat) (x1 : Int32) (x2 : Int32) (σ : Me) : Cor Ω tc12_greatest 1 0 0 [vR (some a0), vI x1, vI x2] σ ιI (fc12_greatest N a0 x1 x2 σ) := by
  refine Cor.of (by decide +kernel) (Nat.le_of_ble_eq_true rfl) (fun Γ hG => ?_)
  unfold fc12_greatest
  show Sim Ω Γ 0 0 ιI 5 0 [(0, vR (some a0)), (1, vI x1), (2, vI x2)] [] σ 0 0 _
  refine s_iconst (v := 0) hG dc12_greatest_0 (by decide) ?_
  refine s_istore_n hG dc12_greatest_1 (by decide) ?_
  refine s_iconst (v := 1) hG dc12_greatest_2 (by decide) ?_
  refine s_istore hG dc12_greatest_3 (by decide) ?_
  exact s_lv (lc rfl (lc rfl (lc rfl (lc rfl (lc rfl ln))))) (pc12_greatest_5 hG _ _ _ _ _ _ _)
def fc12_sumOf_4 (N : Nat) : Nat → Option Nat → Int32 → Int32 → Int32 → Me → Option (Int32 × Me)
  | 0, _, _, _, _, _ => none
  | n + 1, l0, l1, l2, l3, σ =>
    (qI σ 12 24 l0).bind fun v6 =>
    if v6 ≤ l3 then
      some (l2, σ)
    else
      (qR σ 12 28 l0).bind fun v14 =>
      (ldI σ v14 (((4 : Int32) * l3) + l1)).bind fun v22 =>
      (fc12_sumOf_4 N n) l0 l1 (l2 + v22) (l3 + (1 : Int32)) σ
def fc12_sumOf (N : Nat) (a0 : Nat) (x1 : Int32) (σ : Me) : Option (Int32 × Me) :=
  fc12_sumOf_4 N N (some a0) x1 (0 : Int32) (0 : Int32) σ
set_option maxRecDepth 20000 in
set_option maxHeartbeats 2000000 in
theorem pc12_sumOf_4 {Ω : Om} {Γ : Ga} {N : Nat} (hG : Good Ω Γ tc12_sumOf 1 0 0)  : ∀ (n : Nat) (l0 : Option Nat) (l1 : Int32) (l2 : Int32) (l3 : Int32) (σ : Me), Sim Ω Γ 0 0 ιI 4 4 [(0, vR l0), (1, vI l1), (2, vI l2), (3, vI l3)] [] σ 0 0 (fc12_sumOf_4 N n l0 l1 l2 l3 σ) := by
  intro n
  induction n with
  | zero => intros; exact s_none
  | succ n ih =>
    intro l0 l1 l2 l3 σ
    unfold fc12_sumOf_4
    refine s_iload_n hG dc12_sumOf_4 rfl ?_
    refine s_aload_n hG dc12_sumOf_5 rfl ?_
    refine s_getI hG kFc12_290 rfl dc12_sumOf_6 (fun v6 => ?_)
    refine s_icmp_ge hG 31 dc12_sumOf_9 (by decide) ?_ ?_
    · refine s_iload_n hG dc12_sumOf_31 rfl ?_
      exact s_iret hG dc12_sumOf_32 rfl (Nat.le_of_ble_eq_true rfl) (Nat.le_of_ble_eq_true rfl)
    · refine s_iload_n hG dc12_sumOf_12 rfl ?_
      refine s_aload_n hG dc12_sumOf_13 rfl ?_
      refine s_getR hG kFc12_55 rfl dc12_sumOf_14 (fun v14 => ?_)
      refine s_iconst (v := 4) hG dc12_sumOf_17 (by decide) ?_
      refine s_iload_n hG dc12_sumOf_18 rfl ?_
      refine s_imul hG dc12_sumOf_19 ?_
      refine s_iload_n hG dc12_sumOf_20 rfl ?_
      refine s_iadd hG dc12_sumOf_21 ?_
      refine s_iald hG dc12_sumOf_22 (fun v22 => ?_)
      refine s_iadd hG dc12_sumOf_23 ?_
      refine s_istore_n hG dc12_sumOf_24 (by decide) ?_
      refine s_iinc (v := 1) hG dc12_sumOf_25 rfl (by decide) (by decide) ?_
      refine s_goto hG 4 dc12_sumOf_28 (by decide) ?_
      exact s_lv (lc rfl (lc rfl (lc rfl (lc rfl ln)))) (ih _ _ _ _ _)
set_option maxRecDepth 20000 in
set_option maxHeartbeats 2000000 in
theorem corc12_sumOf {Ω : Om} (N : Nat) (a0 : Nat) (x1 : Int32) (σ : Me) : Cor Ω tc12_sumOf 1 0 0 [vR (some a0), vI x1] σ ιI (fc12_sumOf N a0 x1 σ) := by
  refine Cor.of (by decide +kernel) (Nat.le_of_ble_eq_true rfl) (fun Γ hG => ?_)
  unfold fc12_sumOf
  show Sim Ω Γ 0 0 ιI 4 0 [(0, vR (some a0)), (1, vI x1)] [] σ 0 0 _
  refine s_iconst (v := 0) hG dc12_sumOf_0 (by decide) ?_
  refine s_istore_n hG dc12_sumOf_1 (by decide) ?_
  refine s_iconst (v := 0) hG dc12_sumOf_2 (by decide) ?_
  refine s_istore_n hG dc12_sumOf_3 (by decide) ?_
  exact s_lv (lc rfl (lc rfl (lc rfl (lc rfl ln)))) (pc12_sumOf_4 hG _ _ _ _ _ _)
def fc12_all_154 (N : Nat) (K115 : Option Nat → Int32 → Int32 → Me → Option (Int32 × Me)) (l0 : Option Nat) (l3 : Int32) (s0 : Int32) (s1 : Int32) (σ : Me) : Option (Int32 × Me) :=
  K115 l0 (s0 ||| s1) (l3 + (1 : Int32)) σ
def fc12_all_115 (N : Nat) : Nat → Option Nat → Int32 → Int32 → Me → Option (Int32 × Me)
  | 0, _, _, _, _ => none
  | n + 1, l0, l2, l3, σ =>
    (qI σ 12 24 l0).bind fun v117 =>
    if v117 ≤ l3 then
      some (l2, σ)
    else
      (qR σ 12 28 l0).bind fun v125 =>
      (ldI σ v125 (((4 : Int32) * l3) + (1 : Int32))).bind fun v133 =>
      (qR σ 12 28 l0).bind fun v135 =>
      (ldI σ v135 (((4 : Int32) * l3) + (2 : Int32))).bind fun v143 =>
      if v133 ≤ v143 then
        fc12_all_154 N (fc12_all_115 N n) l0 l3 l2 (0 : Int32) σ
      else
        fc12_all_154 N (fc12_all_115 N n) l0 l3 l2 ((1 : Int32) <<< (l3 &&& 31)) σ
def fc12_all (N : Nat) (a0 : Nat) (x1 : Int32) (σ : Me) : Option (Int32 × Me) :=
  (pI σ 12 0 (some a0) (0 : Int32)).bind fun σ2 =>
  (qI σ2 12 24 (some a0)).bind fun v6 =>
  if v6 = 0 then
    some ((-1 : Int32), σ2)
  else
    if x1 = (0 : Int32) then
      (dr σ2 (some a0) (.inl 12)).bind fun a =>
      (fc12_greatest N a (3 : Int32) (-1 : Int32) σ2).bind fun p59 =>
      some (p59.1, p59.2)
    else
    if x1 = (1 : Int32) then
      (dr σ2 (some a0) (.inl 12)).bind fun a =>
      (fc12_greatest N a (2 : Int32) (-1 : Int32) σ2).bind fun p66 =>
      some (p66.1, p66.2)
    else
    if x1 = (2 : Int32) then
      (dr σ2 (some a0) (.inl 12)).bind fun a =>
      (fc12_greatest N a (0 : Int32) (1 : Int32) σ2).bind fun p73 =>
      some (p73.1, p73.2)
    else
    if x1 = (3 : Int32) then
      (dr σ2 (some a0) (.inl 12)).bind fun a =>
      (fc12_greatest N a (1 : Int32) (1 : Int32) σ2).bind fun p80 =>
      some (p80.1, p80.2)
    else
    if x1 = (4 : Int32) then
      (dr σ2 (some a0) (.inl 12)).bind fun a =>
      (fc12_sumOf N a (0 : Int32) σ2).bind fun p86 =>
      some (p86.1, p86.2)
    else
    if x1 = (5 : Int32) then
      (qR σ2 12 28 (some a0)).bind fun v91 =>
      (dr σ2 (some a0) (.inl 12)).bind fun a =>
      (fc12_greatest N a (1 : Int32) (1 : Int32) σ2).bind fun p98 =>
      (ldI p98.2 v91 (((4 : Int32) * p98.1) + (1 : Int32))).bind fun v104 =>
      (qI p98.2 12 24 (some a0)).bind fun v106 =>
      some ((v104 * v106), p98.2)
    else
    if x1 = (6 : Int32) then
      fc12_all_115 N N (some a0) (0 : Int32) (0 : Int32) σ2
    else
    some ((-1 : Int32), σ2)
set_option maxRecDepth 20000 in
set_option maxHeartbeats 2000000 in
theorem pc12_all_154 {Ω : Om} {Γ : Ga} {N : Nat} (hG : Good Ω Γ tc12_all 2 0 0) {K115 : Option Nat → Int32 → Int32 → Me → Option (Int32 × Me)} (hK115 : ∀ (l0 : Option Nat) (l2 : Int32) (l3 : Int32) (σ : Me), Sim Ω Γ 0 0 ιI 4 115 [(0, vR l0), (2, vI l2), (3, vI l3)] [] σ 0 0 (K115 l0 l2 l3 σ)) (l0 : Option Nat) (l3 : Int32) (s0 : Int32) (s1 : Int32) (σ : Me) : Sim Ω Γ 0 0 ιI 4 154 [(0, vR l0), (3, vI l3)] [vI s1, vI s0] σ 0 0 (fc12_all_154 N K115 l0 l3 s0 s1 σ) := by
  unfold fc12_all_154
  refine s_ior hG dc12_all_154 ?_
  refine s_istore_n hG dc12_all_155 (by decide) ?_
  refine s_iinc (v := 1) hG dc12_all_156 rfl (by decide) (by decide) ?_
  refine s_goto hG 115 dc12_all_159 (by decide) ?_
  exact s_lv (lc rfl (lc rfl (lc rfl ln))) (hK115 _ _ _ _)
set_option maxRecDepth 20000 in
set_option maxHeartbeats 2000000 in
theorem pc12_all_115 {Ω : Om} {Γ : Ga} {N : Nat} (hG : Good Ω Γ tc12_all 2 0 0)  : ∀ (n : Nat) (l0 : Option Nat) (l2 : Int32) (l3 : Int32) (σ : Me), Sim Ω Γ 0 0 ιI 4 115 [(0, vR l0), (2, vI l2), (3, vI l3)] [] σ 0 0 (fc12_all_115 N n l0 l2 l3 σ) := by
  intro n
  induction n with
  | zero => intros; exact s_none
  | succ n ih =>
    intro l0 l2 l3 σ
    unfold fc12_all_115
    refine s_iload_n hG dc12_all_115 rfl ?_
    refine s_aload_n hG dc12_all_116 rfl ?_
    refine s_getI hG kFc12_290 rfl dc12_all_117 (fun v117 => ?_)
    refine s_icmp_ge hG 162 dc12_all_120 (by decide) ?_ ?_
    · refine s_iload_n hG dc12_all_162 rfl ?_
      exact s_iret hG dc12_all_163 rfl (Nat.le_of_ble_eq_true rfl) (Nat.le_of_ble_eq_true rfl)
    · refine s_iload_n hG dc12_all_123 rfl ?_
      refine s_aload_n hG dc12_all_124 rfl ?_
      refine s_getR hG kFc12_55 rfl dc12_all_125 (fun v125 => ?_)
      refine s_iconst (v := 4) hG dc12_all_128 (by decide) ?_
      refine s_iload_n hG dc12_all_129 rfl ?_
      refine s_imul hG dc12_all_130 ?_
      refine s_iconst (v := 1) hG dc12_all_131 (by decide) ?_
      refine s_iadd hG dc12_all_132 ?_
      refine s_iald hG dc12_all_133 (fun v133 => ?_)
      refine s_aload_n hG dc12_all_134 rfl ?_
      refine s_getR hG kFc12_55 rfl dc12_all_135 (fun v135 => ?_)
      refine s_iconst (v := 4) hG dc12_all_138 (by decide) ?_
      refine s_iload_n hG dc12_all_139 rfl ?_
      refine s_imul hG dc12_all_140 ?_
      refine s_iconst (v := 2) hG dc12_all_141 (by decide) ?_
      refine s_iadd hG dc12_all_142 ?_
      refine s_iald hG dc12_all_143 (fun v143 => ?_)
      refine s_icmp_le hG 153 dc12_all_144 (by decide) ?_ ?_
      · refine s_iconst (v := 0) hG dc12_all_153 (by decide) ?_
        exact s_lv (lc rfl (lc rfl ln)) (pc12_all_154 hG ih _ _ _ _ _)
      · refine s_iconst (v := 1) hG dc12_all_147 (by decide) ?_
        refine s_iload_n hG dc12_all_148 rfl ?_
        refine s_ishl hG dc12_all_149 ?_
        refine s_goto hG 154 dc12_all_150 (by decide) ?_
        exact s_lv (lc rfl (lc rfl ln)) (pc12_all_154 hG ih _ _ _ _ _)
set_option maxRecDepth 20000 in
set_option maxHeartbeats 2000000 in
theorem corc12_all {Ω : Om} (N : Nat) (a0 : Nat) (x1 : Int32) (σ : Me) : Cor Ω tc12_all 2 0 0 [vR (some a0), vI x1] σ ιI (fc12_all N a0 x1 σ) := by
  refine Cor.of (by decide +kernel) (Nat.le_of_ble_eq_true rfl) (fun Γ hG => ?_)
  unfold fc12_all
  show Sim Ω Γ 0 0 ιI 4 0 [(0, vR (some a0)), (1, vI x1)] [] σ 0 0 _
  refine s_aload_n hG dc12_all_0 rfl ?_
  refine s_iconst (v := 0) hG dc12_all_1 (by decide) ?_
  refine s_putI (fin := false) hG kFc12_100 rfl (fun h => by cases h) rfl (fun _ => rfl) (fun _ => rfl) dc12_all_2 (fun σ2 => ?_)
  refine s_aload_n hG dc12_all_5 rfl ?_
  refine s_getI hG kFc12_290 rfl dc12_all_6 (fun v6 => ?_)
  refine s_if_ne hG 14 dc12_all_9 (by decide) ?_ ?_
  · refine s_iload_n hG dc12_all_14 rfl ?_
    refine s_split _ (fun e0 => ?_) (fun e0 => ?_)
    · refine s_tabIn hG 56 dc12_all_15 (by rw [e0]; decide) (by rw [e0]; decide) (by rw [e0]; rfl) (by decide) ?_
      refine s_aload_n hG dc12_all_56 rfl ?_
      refine s_iconst (v := 3) hG dc12_all_57 (by decide) ?_
      refine s_iconst (v := -1) hG dc12_all_58 (by decide) ?_
      refine s_callVi hG kMc12_457 (fun a => corc12_greatest N a _ _ _) ⟨by decide, rfl⟩ rfl (by first | decide | omega) dc12_all_59 rfl rfl (Nat.le_of_ble_eq_true rfl) ⟨Nat.le_of_ble_eq_true rfl, Nat.le_of_ble_eq_true rfl⟩ (fun p59 => ?_)
      exact s_iret hG dc12_all_62 rfl (Nat.le_of_ble_eq_true rfl) (Nat.le_of_ble_eq_true rfl)
    · refine s_split _ (fun e1 => ?_) (fun e1 => ?_)
      · refine s_tabIn hG 63 dc12_all_15 (by rw [e1]; decide) (by rw [e1]; decide) (by rw [e1]; rfl) (by decide) ?_
        refine s_aload_n hG dc12_all_63 rfl ?_
        refine s_iconst (v := 2) hG dc12_all_64 (by decide) ?_
        refine s_iconst (v := -1) hG dc12_all_65 (by decide) ?_
        refine s_callVi hG kMc12_457 (fun a => corc12_greatest N a _ _ _) ⟨by decide, rfl⟩ rfl (by first | decide | omega) dc12_all_66 rfl rfl (Nat.le_of_ble_eq_true rfl) ⟨Nat.le_of_ble_eq_true rfl, Nat.le_of_ble_eq_true rfl⟩ (fun p66 => ?_)
        exact s_iret hG dc12_all_69 rfl (Nat.le_of_ble_eq_true rfl) (Nat.le_of_ble_eq_true rfl)
      · refine s_split _ (fun e2 => ?_) (fun e2 => ?_)
        · refine s_tabIn hG 70 dc12_all_15 (by rw [e2]; decide) (by rw [e2]; decide) (by rw [e2]; rfl) (by decide) ?_
          refine s_aload_n hG dc12_all_70 rfl ?_
          refine s_iconst (v := 0) hG dc12_all_71 (by decide) ?_
          refine s_iconst (v := 1) hG dc12_all_72 (by decide) ?_
          refine s_callVi hG kMc12_457 (fun a => corc12_greatest N a _ _ _) ⟨by decide, rfl⟩ rfl (by first | decide | omega) dc12_all_73 rfl rfl (Nat.le_of_ble_eq_true rfl) ⟨Nat.le_of_ble_eq_true rfl, Nat.le_of_ble_eq_true rfl⟩ (fun p73 => ?_)
          exact s_iret hG dc12_all_76 rfl (Nat.le_of_ble_eq_true rfl) (Nat.le_of_ble_eq_true rfl)
        · refine s_split _ (fun e3 => ?_) (fun e3 => ?_)
          · refine s_tabIn hG 77 dc12_all_15 (by rw [e3]; decide) (by rw [e3]; decide) (by rw [e3]; rfl) (by decide) ?_
            refine s_aload_n hG dc12_all_77 rfl ?_
            refine s_iconst (v := 1) hG dc12_all_78 (by decide) ?_
            refine s_iconst (v := 1) hG dc12_all_79 (by decide) ?_
            refine s_callVi hG kMc12_457 (fun a => corc12_greatest N a _ _ _) ⟨by decide, rfl⟩ rfl (by first | decide | omega) dc12_all_80 rfl rfl (Nat.le_of_ble_eq_true rfl) ⟨Nat.le_of_ble_eq_true rfl, Nat.le_of_ble_eq_true rfl⟩ (fun p80 => ?_)
            exact s_iret hG dc12_all_83 rfl (Nat.le_of_ble_eq_true rfl) (Nat.le_of_ble_eq_true rfl)
          · refine s_split _ (fun e4 => ?_) (fun e4 => ?_)
            · refine s_tabIn hG 84 dc12_all_15 (by rw [e4]; decide) (by rw [e4]; decide) (by rw [e4]; rfl) (by decide) ?_
              refine s_aload_n hG dc12_all_84 rfl ?_
              refine s_iconst (v := 0) hG dc12_all_85 (by decide) ?_
              refine s_callVi hG kMc12_460 (fun a => corc12_sumOf N a _ _) ⟨by decide, rfl⟩ rfl (by first | decide | omega) dc12_all_86 rfl rfl (Nat.le_of_ble_eq_true rfl) ⟨Nat.le_of_ble_eq_true rfl, Nat.le_of_ble_eq_true rfl⟩ (fun p86 => ?_)
              exact s_iret hG dc12_all_89 rfl (Nat.le_of_ble_eq_true rfl) (Nat.le_of_ble_eq_true rfl)
            · refine s_split _ (fun e5 => ?_) (fun e5 => ?_)
              · refine s_tabIn hG 90 dc12_all_15 (by rw [e5]; decide) (by rw [e5]; decide) (by rw [e5]; rfl) (by decide) ?_
                refine s_aload_n hG dc12_all_90 rfl ?_
                refine s_getR hG kFc12_55 rfl dc12_all_91 (fun v91 => ?_)
                refine s_iconst (v := 4) hG dc12_all_94 (by decide) ?_
                refine s_aload_n hG dc12_all_95 rfl ?_
                refine s_iconst (v := 1) hG dc12_all_96 (by decide) ?_
                refine s_iconst (v := 1) hG dc12_all_97 (by decide) ?_
                refine s_callVi hG kMc12_457 (fun a => corc12_greatest N a _ _ _) ⟨by decide, rfl⟩ rfl (by first | decide | omega) dc12_all_98 rfl rfl (Nat.le_of_ble_eq_true rfl) ⟨Nat.le_of_ble_eq_true rfl, Nat.le_of_ble_eq_true rfl⟩ (fun p98 => ?_)
                refine s_imul hG dc12_all_101 ?_
                refine s_iconst (v := 1) hG dc12_all_102 (by decide) ?_
                refine s_iadd hG dc12_all_103 ?_
                refine s_iald hG dc12_all_104 (fun v104 => ?_)
                refine s_aload_n hG dc12_all_105 rfl ?_
                refine s_getI hG kFc12_290 rfl dc12_all_106 (fun v106 => ?_)
                refine s_imul hG dc12_all_109 ?_
                exact s_iret hG dc12_all_110 rfl (Nat.le_of_ble_eq_true rfl) (Nat.le_of_ble_eq_true rfl)
              · refine s_split _ (fun e6 => ?_) (fun e6 => ?_)
                · refine s_tabIn hG 111 dc12_all_15 (by rw [e6]; decide) (by rw [e6]; decide) (by rw [e6]; rfl) (by decide) ?_
                  refine s_iconst (v := 0) hG dc12_all_111 (by decide) ?_
                  refine s_istore_n hG dc12_all_112 (by decide) ?_
                  refine s_iconst (v := 0) hG dc12_all_113 (by decide) ?_
                  refine s_istore_n hG dc12_all_114 (by decide) ?_
                  exact s_lv (lc rfl (lc rfl (lc rfl ln))) (pc12_all_115 hG _ _ _ _ _)
                · refine s_tabOut hG 164 dc12_all_15 (tab_out (lo := 0) (n := 6) (by decide) (by decide) (show ∀ q ∈ [(0 : Int32), (1 : Int32), (2 : Int32), (3 : Int32), (4 : Int32), (5 : Int32), (6 : Int32)], ¬ _ = q from (List.forall_mem_cons.mpr ⟨e0, (List.forall_mem_cons.mpr ⟨e1, (List.forall_mem_cons.mpr ⟨e2, (List.forall_mem_cons.mpr ⟨e3, (List.forall_mem_cons.mpr ⟨e4, (List.forall_mem_cons.mpr ⟨e5, (List.forall_mem_cons.mpr ⟨e6, (fun q h => absurd h List.not_mem_nil)⟩)⟩)⟩)⟩)⟩)⟩)⟩))) (by decide) ?_
                  refine s_iconst (v := -1) hG dc12_all_164 (by decide) ?_
                  exact s_iret hG dc12_all_165 rfl (Nat.le_of_ble_eq_true rfl) (Nat.le_of_ble_eq_true rfl)
  · refine s_iconst (v := -1) hG dc12_all_12 (by decide) ?_
    exact s_iret hG dc12_all_13 rfl (Nat.le_of_ble_eq_true rfl) (Nat.le_of_ble_eq_true rfl)
def fc12_shares (N : Nat) (a0 : Nat) (x1 : Int32) (x2 : Int32) (σ : Me) : Option (Int32 × Me) :=
  (pI σ 12 0 (some a0) (0 : Int32)).bind fun σ2 =>
  (dr σ2 (some a0) (.inl 12)).bind fun a =>
  (fc12_isField N a x1 σ2).bind fun p7 =>
  if p7.1 = 0 then
    some ((-1 : Int32), p7.2)
  else
    (fc12_isIn N (Int32.toInt64 x2) (0 : Int64) (999 : Int64) p7.2).bind fun p19 =>
    if p19.1 = 0 then
      some ((-1 : Int32), p19.2)
    else
      (dr p19.2 (some a0) (.inl 12)).bind fun a =>
      (fc12_sumOf N a (0 : Int32) p19.2).bind fun p29 =>
      if p29.1 = 0 then
        some ((0 : Int32), p29.2)
      else
        (qR p29.2 12 28 (some a0)).bind fun v43 =>
        (ldI p29.2 v43 (((4 : Int32) * x1) + (0 : Int32))).bind fun v51 =>
        (dvI (x2 * v51) p29.1).bind fun v54 =>
        some (v54, p29.2)
set_option maxRecDepth 20000 in
set_option maxHeartbeats 2000000 in
theorem corc12_shares {Ω : Om} (N : Nat) (a0 : Nat) (x1 : Int32) (x2 : Int32) (σ : Me) : Cor Ω tc12_shares 2 0 0 [vR (some a0), vI x1, vI x2] σ ιI (fc12_shares N a0 x1 x2 σ) := by
  refine Cor.of (by decide +kernel) (Nat.le_of_ble_eq_true rfl) (fun Γ hG => ?_)
  unfold fc12_shares
  show Sim Ω Γ 0 0 ιI 4 0 [(0, vR (some a0)), (1, vI x1), (2, vI x2)] [] σ 0 0 _
  refine s_aload_n hG dc12_shares_0 rfl ?_
  refine s_iconst (v := 0) hG dc12_shares_1 (by decide) ?_
  refine s_putI (fin := false) hG kFc12_100 rfl (fun h => by cases h) rfl (fun _ => rfl) (fun _ => rfl) dc12_shares_2 (fun σ2 => ?_)
  refine s_aload_n hG dc12_shares_5 rfl ?_
  refine s_iload_n hG dc12_shares_6 rfl ?_
  refine s_callVi hG kMc12_353 (fun a => corc12_isField N a _ _) ⟨by decide, rfl⟩ rfl (by first | decide | omega) dc12_shares_7 rfl rfl (Nat.le_of_ble_eq_true rfl) ⟨Nat.le_of_ble_eq_true rfl, Nat.le_of_ble_eq_true rfl⟩ (fun p7 => ?_)
  refine s_if_eq hG 25 dc12_shares_10 (by decide) ?_ ?_
  · refine s_iconst (v := -1) hG dc12_shares_25 (by decide) ?_
    exact s_iret hG dc12_shares_26 rfl (Nat.le_of_ble_eq_true rfl) (Nat.le_of_ble_eq_true rfl)
  · refine s_iload_n hG dc12_shares_13 rfl ?_
    refine s_i2l hG dc12_shares_14 ?_
    refine s_lconst (v := 0) hG dc12_shares_15 (by decide) ?_
    refine s_ldc2 hG dc12_shares_16 kJc12_463 ?_
    refine s_callSi hG kMc12_221 (corc12_isIn N _ _ _ _) rfl (by first | decide | omega) dc12_shares_19 rfl rfl (Nat.le_of_ble_eq_true rfl) ⟨Nat.le_of_ble_eq_true rfl, Nat.le_of_ble_eq_true rfl⟩ (fun p19 => ?_)
    refine s_if_ne hG 27 dc12_shares_22 (by decide) ?_ ?_
    · refine s_aload_n hG dc12_shares_27 rfl ?_
      refine s_iconst (v := 0) hG dc12_shares_28 (by decide) ?_
      refine s_callVi hG kMc12_460 (fun a => corc12_sumOf N a _ _) ⟨by decide, rfl⟩ rfl (by first | decide | omega) dc12_shares_29 rfl rfl (Nat.le_of_ble_eq_true rfl) ⟨Nat.le_of_ble_eq_true rfl, Nat.le_of_ble_eq_true rfl⟩ (fun p29 => ?_)
      refine s_istore_n hG dc12_shares_32 (by decide) ?_
      refine s_iload_n hG dc12_shares_33 rfl ?_
      refine s_if_ne hG 41 dc12_shares_34 (by decide) ?_ ?_
      · refine s_iload_n hG dc12_shares_41 rfl ?_
        refine s_aload_n hG dc12_shares_42 rfl ?_
        refine s_getR hG kFc12_55 rfl dc12_shares_43 (fun v43 => ?_)
        refine s_iconst (v := 4) hG dc12_shares_46 (by decide) ?_
        refine s_iload_n hG dc12_shares_47 rfl ?_
        refine s_imul hG dc12_shares_48 ?_
        refine s_iconst (v := 0) hG dc12_shares_49 (by decide) ?_
        refine s_iadd hG dc12_shares_50 ?_
        refine s_iald hG dc12_shares_51 (fun v51 => ?_)
        refine s_imul hG dc12_shares_52 ?_
        refine s_iload_n hG dc12_shares_53 rfl ?_
        refine s_idiv hG dc12_shares_54 (fun v54 => ?_)
        exact s_iret hG dc12_shares_55 rfl (Nat.le_of_ble_eq_true rfl) (Nat.le_of_ble_eq_true rfl)
      · refine s_iconst (v := 0) hG dc12_shares_37 (by decide) ?_
        refine s_goto hG 55 dc12_shares_38 (by decide) ?_
        exact s_iret hG dc12_shares_55 rfl (Nat.le_of_ble_eq_true rfl) (Nat.le_of_ble_eq_true rfl)
    · refine s_iconst (v := -1) hG dc12_shares_25 (by decide) ?_
      exact s_iret hG dc12_shares_26 rfl (Nat.le_of_ble_eq_true rfl) (Nat.le_of_ble_eq_true rfl)
def fc12_buyers_68 (N : Nat) (K30 : Option Nat → Int32 → Int32 → Int32 → Me → Option (Int32 × Me)) (l0 : Option Nat) (l1 : Int32) (l3 : Int32) (s0 : Int32) (s1 : Int32) (σ : Me) : Option (Int32 × Me) :=
  K30 l0 l1 (s0 ||| s1) (l3 + (1 : Int32)) σ
def fc12_buyers_30 (N : Nat) : Nat → Option Nat → Int32 → Int32 → Int32 → Me → Option (Int32 × Me)
  | 0, _, _, _, _, _ => none
  | n + 1, l0, l1, l2, l3, σ =>
    (qI σ 12 24 l0).bind fun v32 =>
    if v32 ≤ l3 then
      some (l2, σ)
    else
      (qR σ 12 28 l0).bind fun v40 =>
      (ldI σ v40 (((4 : Int32) * l3) + (3 : Int32))).bind fun v48 =>
      (qR σ 12 28 l0).bind fun v51 =>
      (ldI σ v51 (24 : Int32)).bind fun v56 =>
      if v48 < (l1 * v56) then
        fc12_buyers_68 N (fc12_buyers_30 N n) l0 l1 l3 l2 (0 : Int32) σ
      else
        fc12_buyers_68 N (fc12_buyers_30 N n) l0 l1 l3 l2 ((1 : Int32) <<< (l3 &&& 31)) σ
def fc12_buyers (N : Nat) (a0 : Nat) (x1 : Int32) (σ : Me) : Option (Int32 × Me) :=
  (pI σ 12 0 (some a0) (0 : Int32)).bind fun σ2 =>
  (qI σ2 12 24 (some a0)).bind fun v6 =>
  if v6 = 0 then
    some ((-1 : Int32), σ2)
  else
    (fc12_isIn N (Int32.toInt64 x1) (1 : Int64) (20 : Int64) σ2).bind fun p18 =>
    if p18.1 = 0 then
      some ((-1 : Int32), p18.2)
    else
      fc12_buyers_30 N N (some a0) x1 (0 : Int32) (0 : Int32) p18.2
set_option maxRecDepth 20000 in
set_option maxHeartbeats 2000000 in
theorem pc12_buyers_68 {Ω : Om} {Γ : Ga} {N : Nat} (hG : Good Ω Γ tc12_buyers 2 0 0) {K30 : Option Nat → Int32 → Int32 → Int32 → Me → Option (Int32 × Me)} (hK30 : ∀ (l0 : Option Nat) (l1 : Int32) (l2 : Int32) (l3 : Int32) (σ : Me), Sim Ω Γ 0 0 ιI 4 30 [(0, vR l0), (1, vI l1), (2, vI l2), (3, vI l3)] [] σ 0 0 (K30 l0 l1 l2 l3 σ)) (l0 : Option Nat) (l1 : Int32) (l3 : Int32) (s0 : Int32) (s1 : Int32) (σ : Me) : Sim Ω Γ 0 0 ιI 4 68 [(0, vR l0), (1, vI l1), (3, vI l3)] [vI s1, vI s0] σ 0 0 (fc12_buyers_68 N K30 l0 l1 l3 s0 s1 σ) := by
  unfold fc12_buyers_68
  refine s_ior hG dc12_buyers_68 ?_
  refine s_istore_n hG dc12_buyers_69 (by decide) ?_
  refine s_iinc (v := 1) hG dc12_buyers_70 rfl (by decide) (by decide) ?_
  refine s_goto hG 30 dc12_buyers_73 (by decide) ?_
  exact s_lv (lc rfl (lc rfl (lc rfl (lc rfl ln)))) (hK30 _ _ _ _ _)
set_option maxRecDepth 20000 in
set_option maxHeartbeats 2000000 in
theorem pc12_buyers_30 {Ω : Om} {Γ : Ga} {N : Nat} (hG : Good Ω Γ tc12_buyers 2 0 0)  : ∀ (n : Nat) (l0 : Option Nat) (l1 : Int32) (l2 : Int32) (l3 : Int32) (σ : Me), Sim Ω Γ 0 0 ιI 4 30 [(0, vR l0), (1, vI l1), (2, vI l2), (3, vI l3)] [] σ 0 0 (fc12_buyers_30 N n l0 l1 l2 l3 σ) := by
  intro n
  induction n with
  | zero => intros; exact s_none
  | succ n ih =>
    intro l0 l1 l2 l3 σ
    unfold fc12_buyers_30
    refine s_iload_n hG dc12_buyers_30 rfl ?_
    refine s_aload_n hG dc12_buyers_31 rfl ?_
    refine s_getI hG kFc12_290 rfl dc12_buyers_32 (fun v32 => ?_)
    refine s_icmp_ge hG 76 dc12_buyers_35 (by decide) ?_ ?_
    · refine s_iload_n hG dc12_buyers_76 rfl ?_
      exact s_iret hG dc12_buyers_77 rfl (Nat.le_of_ble_eq_true rfl) (Nat.le_of_ble_eq_true rfl)
    · refine s_iload_n hG dc12_buyers_38 rfl ?_
      refine s_aload_n hG dc12_buyers_39 rfl ?_
      refine s_getR hG kFc12_55 rfl dc12_buyers_40 (fun v40 => ?_)
      refine s_iconst (v := 4) hG dc12_buyers_43 (by decide) ?_
      refine s_iload_n hG dc12_buyers_44 rfl ?_
      refine s_imul hG dc12_buyers_45 ?_
      refine s_iconst (v := 3) hG dc12_buyers_46 (by decide) ?_
      refine s_iadd hG dc12_buyers_47 ?_
      refine s_iald hG dc12_buyers_48 (fun v48 => ?_)
      refine s_iload_n hG dc12_buyers_49 rfl ?_
      refine s_aload_n hG dc12_buyers_50 rfl ?_
      refine s_getR hG kFc12_55 rfl dc12_buyers_51 (fun v51 => ?_)
      refine s_bipush (v := 24) hG dc12_buyers_54 (by decide) ?_
      refine s_iald hG dc12_buyers_56 (fun v56 => ?_)
      refine s_imul hG dc12_buyers_57 ?_
      refine s_icmp_lt hG 67 dc12_buyers_58 (by decide) ?_ ?_
      · refine s_iconst (v := 0) hG dc12_buyers_67 (by decide) ?_
        exact s_lv (lc rfl (lc rfl (lc rfl ln))) (pc12_buyers_68 hG ih _ _ _ _ _ _)
      · refine s_iconst (v := 1) hG dc12_buyers_61 (by decide) ?_
        refine s_iload_n hG dc12_buyers_62 rfl ?_
        refine s_ishl hG dc12_buyers_63 ?_
        refine s_goto hG 68 dc12_buyers_64 (by decide) ?_
        exact s_lv (lc rfl (lc rfl (lc rfl ln))) (pc12_buyers_68 hG ih _ _ _ _ _ _)
set_option maxRecDepth 20000 in
set_option maxHeartbeats 2000000 in
theorem corc12_buyers {Ω : Om} (N : Nat) (a0 : Nat) (x1 : Int32) (σ : Me) : Cor Ω tc12_buyers 2 0 0 [vR (some a0), vI x1] σ ιI (fc12_buyers N a0 x1 σ) := by
  refine Cor.of (by decide +kernel) (Nat.le_of_ble_eq_true rfl) (fun Γ hG => ?_)
  unfold fc12_buyers
  show Sim Ω Γ 0 0 ιI 4 0 [(0, vR (some a0)), (1, vI x1)] [] σ 0 0 _
  refine s_aload_n hG dc12_buyers_0 rfl ?_
  refine s_iconst (v := 0) hG dc12_buyers_1 (by decide) ?_
  refine s_putI (fin := false) hG kFc12_100 rfl (fun h => by cases h) rfl (fun _ => rfl) (fun _ => rfl) dc12_buyers_2 (fun σ2 => ?_)
  refine s_aload_n hG dc12_buyers_5 rfl ?_
  refine s_getI hG kFc12_290 rfl dc12_buyers_6 (fun v6 => ?_)
  refine s_if_eq hG 24 dc12_buyers_9 (by decide) ?_ ?_
  · refine s_iconst (v := -1) hG dc12_buyers_24 (by decide) ?_
    exact s_iret hG dc12_buyers_25 rfl (Nat.le_of_ble_eq_true rfl) (Nat.le_of_ble_eq_true rfl)
  · refine s_iload_n hG dc12_buyers_12 rfl ?_
    refine s_i2l hG dc12_buyers_13 ?_
    refine s_lconst (v := 1) hG dc12_buyers_14 (by decide) ?_
    refine s_ldc2 hG dc12_buyers_15 kJc12_369 ?_
    refine s_callSi hG kMc12_221 (corc12_isIn N _ _ _ _) rfl (by first | decide | omega) dc12_buyers_18 rfl rfl (Nat.le_of_ble_eq_true rfl) ⟨Nat.le_of_ble_eq_true rfl, Nat.le_of_ble_eq_true rfl⟩ (fun p18 => ?_)
    refine s_if_ne hG 26 dc12_buyers_21 (by decide) ?_ ?_
    · refine s_iconst (v := 0) hG dc12_buyers_26 (by decide) ?_
      refine s_istore_n hG dc12_buyers_27 (by decide) ?_
      refine s_iconst (v := 0) hG dc12_buyers_28 (by decide) ?_
      refine s_istore_n hG dc12_buyers_29 (by decide) ?_
      exact s_lv (lc rfl (lc rfl (lc rfl (lc rfl ln)))) (pc12_buyers_30 hG _ _ _ _ _ _)
    · refine s_iconst (v := -1) hG dc12_buyers_24 (by decide) ?_
      exact s_iret hG dc12_buyers_25 rfl (Nat.le_of_ble_eq_true rfl) (Nat.le_of_ble_eq_true rfl)
def fc12_image_16 (N : Nat) : Nat → Option Nat → Int32 → Me → Option (Int32 × Me)
  | 0, _, _, _ => none
  | n + 1, l0, l1, σ =>
    if (207 : Int32) ≤ l1 then
      (pZ σ 12 48 l0 (1 : Int32)).bind fun σ43 =>
      (qR σ43 12 28 l0).bind fun v47 =>
      (ldI σ43 v47 (25 : Int32)).bind fun v52 =>
      some (v52, σ43)
    else
      (qR σ 12 47 l0).bind fun v24 =>
      (qR σ 12 28 l0).bind fun v29 =>
      (ldI σ v29 l1).bind fun v33 =>
      (stI σ v24 l1 v33).bind fun σ34 =>
      (fc12_image_16 N n) l0 (l1 + (1 : Int32)) σ34
def fc12_image (N : Nat) (a0 : Nat) (σ : Me) : Option (Int32 × Me) :=
  (pI σ 12 0 (some a0) (0 : Int32)).bind fun σ2 =>
  (qI σ2 12 24 (some a0)).bind fun v6 =>
  if v6 = 0 then
    some ((-1 : Int32), σ2)
  else
    fc12_image_16 N N (some a0) (0 : Int32) σ2
set_option maxRecDepth 20000 in
set_option maxHeartbeats 2000000 in
theorem pc12_image_16 {Ω : Om} {Γ : Ga} {N : Nat} (hG : Good Ω Γ tc12_image 1 0 0)  : ∀ (n : Nat) (l0 : Option Nat) (l1 : Int32) (σ : Me), Sim Ω Γ 0 0 ιI 2 16 [(0, vR l0), (1, vI l1)] [] σ 0 0 (fc12_image_16 N n l0 l1 σ) := by
  intro n
  induction n with
  | zero => intros; exact s_none
  | succ n ih =>
    intro l0 l1 σ
    unfold fc12_image_16
    refine s_iload_n hG dc12_image_16 rfl ?_
    refine s_sipush (v := 207) hG dc12_image_17 (by decide) ?_
    refine s_icmp_ge hG 41 dc12_image_20 (by decide) ?_ ?_
    · refine s_aload_n hG dc12_image_41 rfl ?_
      refine s_iconst (v := 1) hG dc12_image_42 (by decide) ?_
      refine s_putZ hG kFc12_299 rfl rfl dc12_image_43 (fun σ43 => ?_)
      refine s_aload_n hG dc12_image_46 rfl ?_
      refine s_getR hG kFc12_55 rfl dc12_image_47 (fun v47 => ?_)
      refine s_bipush (v := 25) hG dc12_image_50 (by decide) ?_
      refine s_iald hG dc12_image_52 (fun v52 => ?_)
      exact s_iret hG dc12_image_53 rfl (Nat.le_of_ble_eq_true rfl) (Nat.le_of_ble_eq_true rfl)
    · refine s_aload_n hG dc12_image_23 rfl ?_
      refine s_getR hG kFc12_97 rfl dc12_image_24 (fun v24 => ?_)
      refine s_iload_n hG dc12_image_27 rfl ?_
      refine s_aload_n hG dc12_image_28 rfl ?_
      refine s_getR hG kFc12_55 rfl dc12_image_29 (fun v29 => ?_)
      refine s_iload_n hG dc12_image_32 rfl ?_
      refine s_iald hG dc12_image_33 (fun v33 => ?_)
      refine s_iast hG dc12_image_34 (fun σ34 => ?_)
      refine s_iinc (v := 1) hG dc12_image_35 rfl (by decide) (by decide) ?_
      refine s_goto hG 16 dc12_image_38 (by decide) ?_
      exact s_lv (lc rfl (lc rfl ln)) (ih _ _ _)
set_option maxRecDepth 20000 in
set_option maxHeartbeats 2000000 in
theorem corc12_image {Ω : Om} (N : Nat) (a0 : Nat) (σ : Me) : Cor Ω tc12_image 1 0 0 [vR (some a0)] σ ιI (fc12_image N a0 σ) := by
  refine Cor.of (by decide +kernel) (Nat.le_of_ble_eq_true rfl) (fun Γ hG => ?_)
  unfold fc12_image
  show Sim Ω Γ 0 0 ιI 2 0 [(0, vR (some a0))] [] σ 0 0 _
  refine s_aload_n hG dc12_image_0 rfl ?_
  refine s_iconst (v := 0) hG dc12_image_1 (by decide) ?_
  refine s_putI (fin := false) hG kFc12_100 rfl (fun h => by cases h) rfl (fun _ => rfl) (fun _ => rfl) dc12_image_2 (fun σ2 => ?_)
  refine s_aload_n hG dc12_image_5 rfl ?_
  refine s_getI hG kFc12_290 rfl dc12_image_6 (fun v6 => ?_)
  refine s_if_ne hG 14 dc12_image_9 (by decide) ?_ ?_
  · refine s_iconst (v := 0) hG dc12_image_14 (by decide) ?_
    refine s_istore_n hG dc12_image_15 (by decide) ?_
    exact s_lv (lc rfl (lc rfl ln)) (pc12_image_16 hG _ _ _ _)
  · refine s_iconst (v := -1) hG dc12_image_12 (by decide) ?_
    exact s_iret hG dc12_image_13 rfl (Nat.le_of_ble_eq_true rfl) (Nat.le_of_ble_eq_true rfl)
def fc12_back_16 (N : Nat) : Nat → Option Nat → Int32 → Me → Option (Int32 × Me)
  | 0, _, _, _ => none
  | n + 1, l0, l1, σ =>
    if (207 : Int32) ≤ l1 then
      (pI σ 12 39 l0 (0 : Int32)).bind fun σ43 =>
      (qR σ43 12 28 l0).bind fun v47 =>
      (ldI σ43 v47 (25 : Int32)).bind fun v52 =>
      some (v52, σ43)
    else
      (qR σ 12 28 l0).bind fun v24 =>
      (qR σ 12 47 l0).bind fun v29 =>
      (ldI σ v29 l1).bind fun v33 =>
      (stI σ v24 l1 v33).bind fun σ34 =>
      (fc12_back_16 N n) l0 (l1 + (1 : Int32)) σ34
def fc12_back (N : Nat) (a0 : Nat) (σ : Me) : Option (Int32 × Me) :=
  (pI σ 12 0 (some a0) (0 : Int32)).bind fun σ2 =>
  (qI σ2 12 48 (some a0)).bind fun v6 =>
  if v6 = 0 then
    some ((-1 : Int32), σ2)
  else
    fc12_back_16 N N (some a0) (0 : Int32) σ2
set_option maxRecDepth 20000 in
set_option maxHeartbeats 2000000 in
theorem pc12_back_16 {Ω : Om} {Γ : Ga} {N : Nat} (hG : Good Ω Γ tc12_back 1 0 0)  : ∀ (n : Nat) (l0 : Option Nat) (l1 : Int32) (σ : Me), Sim Ω Γ 0 0 ιI 2 16 [(0, vR l0), (1, vI l1)] [] σ 0 0 (fc12_back_16 N n l0 l1 σ) := by
  intro n
  induction n with
  | zero => intros; exact s_none
  | succ n ih =>
    intro l0 l1 σ
    unfold fc12_back_16
    refine s_iload_n hG dc12_back_16 rfl ?_
    refine s_sipush (v := 207) hG dc12_back_17 (by decide) ?_
    refine s_icmp_ge hG 41 dc12_back_20 (by decide) ?_ ?_
    · refine s_aload_n hG dc12_back_41 rfl ?_
      refine s_iconst (v := 0) hG dc12_back_42 (by decide) ?_
      refine s_putI (fin := false) hG kFc12_296 rfl (fun h => by cases h) rfl (fun _ => rfl) (fun _ => rfl) dc12_back_43 (fun σ43 => ?_)
      refine s_aload_n hG dc12_back_46 rfl ?_
      refine s_getR hG kFc12_55 rfl dc12_back_47 (fun v47 => ?_)
      refine s_bipush (v := 25) hG dc12_back_50 (by decide) ?_
      refine s_iald hG dc12_back_52 (fun v52 => ?_)
      exact s_iret hG dc12_back_53 rfl (Nat.le_of_ble_eq_true rfl) (Nat.le_of_ble_eq_true rfl)
    · refine s_aload_n hG dc12_back_23 rfl ?_
      refine s_getR hG kFc12_55 rfl dc12_back_24 (fun v24 => ?_)
      refine s_iload_n hG dc12_back_27 rfl ?_
      refine s_aload_n hG dc12_back_28 rfl ?_
      refine s_getR hG kFc12_97 rfl dc12_back_29 (fun v29 => ?_)
      refine s_iload_n hG dc12_back_32 rfl ?_
      refine s_iald hG dc12_back_33 (fun v33 => ?_)
      refine s_iast hG dc12_back_34 (fun σ34 => ?_)
      refine s_iinc (v := 1) hG dc12_back_35 rfl (by decide) (by decide) ?_
      refine s_goto hG 16 dc12_back_38 (by decide) ?_
      exact s_lv (lc rfl (lc rfl ln)) (ih _ _ _)
set_option maxRecDepth 20000 in
set_option maxHeartbeats 2000000 in
theorem corc12_back {Ω : Om} (N : Nat) (a0 : Nat) (σ : Me) : Cor Ω tc12_back 1 0 0 [vR (some a0)] σ ιI (fc12_back N a0 σ) := by
  refine Cor.of (by decide +kernel) (Nat.le_of_ble_eq_true rfl) (fun Γ hG => ?_)
  unfold fc12_back
  show Sim Ω Γ 0 0 ιI 2 0 [(0, vR (some a0))] [] σ 0 0 _
  refine s_aload_n hG dc12_back_0 rfl ?_
  refine s_iconst (v := 0) hG dc12_back_1 (by decide) ?_
  refine s_putI (fin := false) hG kFc12_100 rfl (fun h => by cases h) rfl (fun _ => rfl) (fun _ => rfl) dc12_back_2 (fun σ2 => ?_)
  refine s_aload_n hG dc12_back_5 rfl ?_
  refine s_getI hG kFc12_299 rfl dc12_back_6 (fun v6 => ?_)
  refine s_if_ne hG 14 dc12_back_9 (by decide) ?_ ?_
  · refine s_iconst (v := 0) hG dc12_back_14 (by decide) ?_
    refine s_istore_n hG dc12_back_15 (by decide) ?_
    exact s_lv (lc rfl (lc rfl ln)) (pc12_back_16 hG _ _ _ _)
  · refine s_iconst (v := -1) hG dc12_back_12 (by decide) ?_
    exact s_iret hG dc12_back_13 rfl (Nat.le_of_ble_eq_true rfl) (Nat.le_of_ble_eq_true rfl)
def fc12_count (N : Nat) (a0 : Nat) (x1 : Int32) (σ : Me) : Option (Int32 × Me) :=
  (pI σ 12 0 (some a0) (0 : Int32)).bind fun σ2 =>
  if x1 = (0 : Int32) then
    (qI σ2 12 24 (some a0)).bind fun v65 =>
    some (v65, σ2)
  else
  if x1 = (1 : Int32) then
    (qI σ2 12 7 (some a0)).bind fun v70 =>
    some (v70, σ2)
  else
  if x1 = (2 : Int32) then
    (qI σ2 12 26 (some a0)).bind fun v75 =>
    some (v75, σ2)
  else
  if x1 = (3 : Int32) then
    (qI σ2 12 6 (some a0)).bind fun v80 =>
    some (v80, σ2)
  else
  if x1 = (4 : Int32) then
    (qI σ2 12 30 (some a0)).bind fun v85 =>
    some (v85, σ2)
  else
  if x1 = (5 : Int32) then
    (qR σ2 12 28 (some a0)).bind fun v90 =>
    (ldI σ2 v90 (25 : Int32)).bind fun v95 =>
    some (v95, σ2)
  else
  if x1 = (6 : Int32) then
    (dr σ2 (some a0) (.inl 12)).bind fun a =>
    (fc12_sumOf N a (3 : Int32) σ2).bind fun p99 =>
    some (p99.1, p99.2)
  else
  if x1 = (7 : Int32) then
    (qI σ2 12 31 (some a0)).bind fun v104 =>
    some (v104, σ2)
  else
  if x1 = (8 : Int32) then
    (qI σ2 12 45 (some a0)).bind fun v109 =>
    some (v109, σ2)
  else
  if x1 = (9 : Int32) then
    (qR σ2 12 28 (some a0)).bind fun v114 =>
    (ldI σ2 v114 (26 : Int32)).bind fun v119 =>
    some (v119, σ2)
  else
  if x1 = (10 : Int32) then
    (qI σ2 12 39 (some a0)).bind fun v122 =>
    some (v122, σ2)
  else
  some ((-1000000 : Int32), σ2)
set_option maxRecDepth 20000 in
set_option maxHeartbeats 2000000 in
theorem corc12_count {Ω : Om} (N : Nat) (a0 : Nat) (x1 : Int32) (σ : Me) : Cor Ω tc12_count 2 0 0 [vR (some a0), vI x1] σ ιI (fc12_count N a0 x1 σ) := by
  refine Cor.of (by decide +kernel) (Nat.le_of_ble_eq_true rfl) (fun Γ hG => ?_)
  unfold fc12_count
  show Sim Ω Γ 0 0 ιI 2 0 [(0, vR (some a0)), (1, vI x1)] [] σ 0 0 _
  refine s_aload_n hG dc12_count_0 rfl ?_
  refine s_iconst (v := 0) hG dc12_count_1 (by decide) ?_
  refine s_putI (fin := false) hG kFc12_100 rfl (fun h => by cases h) rfl (fun _ => rfl) (fun _ => rfl) dc12_count_2 (fun σ2 => ?_)
  refine s_iload_n hG dc12_count_5 rfl ?_
  refine s_split _ (fun e0 => ?_) (fun e0 => ?_)
  · refine s_tabIn hG 64 dc12_count_6 (by rw [e0]; decide) (by rw [e0]; decide) (by rw [e0]; rfl) (by decide) ?_
    refine s_aload_n hG dc12_count_64 rfl ?_
    refine s_getI hG kFc12_290 rfl dc12_count_65 (fun v65 => ?_)
    exact s_iret hG dc12_count_68 rfl (Nat.le_of_ble_eq_true rfl) (Nat.le_of_ble_eq_true rfl)
  · refine s_split _ (fun e1 => ?_) (fun e1 => ?_)
    · refine s_tabIn hG 69 dc12_count_6 (by rw [e1]; decide) (by rw [e1]; decide) (by rw [e1]; rfl) (by decide) ?_
      refine s_aload_n hG dc12_count_69 rfl ?_
      refine s_getI hG kFc12_282 rfl dc12_count_70 (fun v70 => ?_)
      exact s_iret hG dc12_count_73 rfl (Nat.le_of_ble_eq_true rfl) (Nat.le_of_ble_eq_true rfl)
    · refine s_split _ (fun e2 => ?_) (fun e2 => ?_)
      · refine s_tabIn hG 74 dc12_count_6 (by rw [e2]; decide) (by rw [e2]; decide) (by rw [e2]; rfl) (by decide) ?_
        refine s_aload_n hG dc12_count_74 rfl ?_
        refine s_getI hG kFc12_285 rfl dc12_count_75 (fun v75 => ?_)
        exact s_iret hG dc12_count_78 rfl (Nat.le_of_ble_eq_true rfl) (Nat.le_of_ble_eq_true rfl)
      · refine s_split _ (fun e3 => ?_) (fun e3 => ?_)
        · refine s_tabIn hG 79 dc12_count_6 (by rw [e3]; decide) (by rw [e3]; decide) (by rw [e3]; rfl) (by decide) ?_
          refine s_aload_n hG dc12_count_79 rfl ?_
          refine s_getI hG kFc12_113 rfl dc12_count_80 (fun v80 => ?_)
          exact s_iret hG dc12_count_83 rfl (Nat.le_of_ble_eq_true rfl) (Nat.le_of_ble_eq_true rfl)
        · refine s_split _ (fun e4 => ?_) (fun e4 => ?_)
          · refine s_tabIn hG 84 dc12_count_6 (by rw [e4]; decide) (by rw [e4]; decide) (by rw [e4]; rfl) (by decide) ?_
            refine s_aload_n hG dc12_count_84 rfl ?_
            refine s_getI hG kFc12_61 rfl dc12_count_85 (fun v85 => ?_)
            exact s_iret hG dc12_count_88 rfl (Nat.le_of_ble_eq_true rfl) (Nat.le_of_ble_eq_true rfl)
          · refine s_split _ (fun e5 => ?_) (fun e5 => ?_)
            · refine s_tabIn hG 89 dc12_count_6 (by rw [e5]; decide) (by rw [e5]; decide) (by rw [e5]; rfl) (by decide) ?_
              refine s_aload_n hG dc12_count_89 rfl ?_
              refine s_getR hG kFc12_55 rfl dc12_count_90 (fun v90 => ?_)
              refine s_bipush (v := 25) hG dc12_count_93 (by decide) ?_
              refine s_iald hG dc12_count_95 (fun v95 => ?_)
              exact s_iret hG dc12_count_96 rfl (Nat.le_of_ble_eq_true rfl) (Nat.le_of_ble_eq_true rfl)
            · refine s_split _ (fun e6 => ?_) (fun e6 => ?_)
              · refine s_tabIn hG 97 dc12_count_6 (by rw [e6]; decide) (by rw [e6]; decide) (by rw [e6]; rfl) (by decide) ?_
                refine s_aload_n hG dc12_count_97 rfl ?_
                refine s_iconst (v := 3) hG dc12_count_98 (by decide) ?_
                refine s_callVi hG kMc12_460 (fun a => corc12_sumOf N a _ _) ⟨by decide, rfl⟩ rfl (by first | decide | omega) dc12_count_99 rfl rfl (Nat.le_of_ble_eq_true rfl) ⟨Nat.le_of_ble_eq_true rfl, Nat.le_of_ble_eq_true rfl⟩ (fun p99 => ?_)
                exact s_iret hG dc12_count_102 rfl (Nat.le_of_ble_eq_true rfl) (Nat.le_of_ble_eq_true rfl)
              · refine s_split _ (fun e7 => ?_) (fun e7 => ?_)
                · refine s_tabIn hG 103 dc12_count_6 (by rw [e7]; decide) (by rw [e7]; decide) (by rw [e7]; rfl) (by decide) ?_
                  refine s_aload_n hG dc12_count_103 rfl ?_
                  refine s_getI hG kFc12_360 rfl dc12_count_104 (fun v104 => ?_)
                  exact s_iret hG dc12_count_107 rfl (Nat.le_of_ble_eq_true rfl) (Nat.le_of_ble_eq_true rfl)
                · refine s_split _ (fun e8 => ?_) (fun e8 => ?_)
                  · refine s_tabIn hG 108 dc12_count_6 (by rw [e8]; decide) (by rw [e8]; decide) (by rw [e8]; rfl) (by decide) ?_
                    refine s_aload_n hG dc12_count_108 rfl ?_
                    refine s_getI hG kFc12_293 rfl dc12_count_109 (fun v109 => ?_)
                    exact s_iret hG dc12_count_112 rfl (Nat.le_of_ble_eq_true rfl) (Nat.le_of_ble_eq_true rfl)
                  · refine s_split _ (fun e9 => ?_) (fun e9 => ?_)
                    · refine s_tabIn hG 113 dc12_count_6 (by rw [e9]; decide) (by rw [e9]; decide) (by rw [e9]; rfl) (by decide) ?_
                      refine s_aload_n hG dc12_count_113 rfl ?_
                      refine s_getR hG kFc12_55 rfl dc12_count_114 (fun v114 => ?_)
                      refine s_bipush (v := 26) hG dc12_count_117 (by decide) ?_
                      refine s_iald hG dc12_count_119 (fun v119 => ?_)
                      exact s_iret hG dc12_count_120 rfl (Nat.le_of_ble_eq_true rfl) (Nat.le_of_ble_eq_true rfl)
                    · refine s_split _ (fun e10 => ?_) (fun e10 => ?_)
                      · refine s_tabIn hG 121 dc12_count_6 (by rw [e10]; decide) (by rw [e10]; decide) (by rw [e10]; rfl) (by decide) ?_
                        refine s_aload_n hG dc12_count_121 rfl ?_
                        refine s_getI hG kFc12_296 rfl dc12_count_122 (fun v122 => ?_)
                        exact s_iret hG dc12_count_125 rfl (Nat.le_of_ble_eq_true rfl) (Nat.le_of_ble_eq_true rfl)
                      · refine s_tabOut hG 126 dc12_count_6 (tab_out (lo := 0) (n := 10) (by decide) (by decide) (show ∀ q ∈ [(0 : Int32), (1 : Int32), (2 : Int32), (3 : Int32), (4 : Int32), (5 : Int32), (6 : Int32), (7 : Int32), (8 : Int32), (9 : Int32), (10 : Int32)], ¬ _ = q from (List.forall_mem_cons.mpr ⟨e0, (List.forall_mem_cons.mpr ⟨e1, (List.forall_mem_cons.mpr ⟨e2, (List.forall_mem_cons.mpr ⟨e3, (List.forall_mem_cons.mpr ⟨e4, (List.forall_mem_cons.mpr ⟨e5, (List.forall_mem_cons.mpr ⟨e6, (List.forall_mem_cons.mpr ⟨e7, (List.forall_mem_cons.mpr ⟨e8, (List.forall_mem_cons.mpr ⟨e9, (List.forall_mem_cons.mpr ⟨e10, (fun q h => absurd h List.not_mem_nil)⟩)⟩)⟩)⟩)⟩)⟩)⟩)⟩)⟩)⟩)⟩))) (by decide) ?_
                        refine s_ldcw hG dc12_count_126 kIc12_418 ?_
                        exact s_iret hG dc12_count_129 rfl (Nat.le_of_ble_eq_true rfl) (Nat.le_of_ble_eq_true rfl)
