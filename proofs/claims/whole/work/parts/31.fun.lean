def fc12_heresy (N : Nat) (a0 : Nat) (x1 : Int32) (σ : Me) : Option (Int32 × Me) :=
  (pI σ 12 0 (some a0) (0 : Int32)).bind fun σ2 =>
  (fc12_isIn N (Int32.toInt64 x1) (0 : Int64) (9 : Int64) σ2).bind fun p11 =>
  if p11.1 = 0 then
    retZ (0 : Int32) p11.2
  else
    (qI p11.2 12 31 (some a0)).bind fun v19 =>
    if x1 = v19 then
      retZ (0 : Int32) p11.2
    else
      (pI p11.2 12 31 (some a0) x1).bind fun σ29 =>
      retZ (1 : Int32) σ29
set_option maxRecDepth 20000 in
set_option maxHeartbeats 2000000 in
theorem corc12_heresy {Ω : Om} (N : Nat) (a0 : Nat) (x1 : Int32) (σ : Me) : Cor Ω tc12_heresy 2 0 0 [vR (some a0), vI x1] σ ιI (fc12_heresy N a0 x1 σ) := by
  refine Cor.of (by decide +kernel) (Nat.le_of_ble_eq_true rfl) (fun Γ hG => ?_)
  unfold fc12_heresy
  show Sim Ω Γ 0 0 ιI 2 0 [(0, vR (some a0)), (1, vI x1)] [] σ 0 0 _
  refine s_aload_n hG dc12_heresy_0 rfl ?_
  refine s_iconst (v := 0) hG dc12_heresy_1 (by decide) ?_
  refine s_putI (fin := false) hG kFc12_100 rfl (fun h => by cases h) rfl (fun _ => rfl) (fun _ => rfl) dc12_heresy_2 (fun σ2 => ?_)
  refine s_iload_n hG dc12_heresy_5 rfl ?_
  refine s_i2l hG dc12_heresy_6 ?_
  refine s_lconst (v := 0) hG dc12_heresy_7 (by decide) ?_
  refine s_ldc2 hG dc12_heresy_8 kJc12_358 ?_
  refine s_callSi hG kMc12_221 (corc12_isIn N _ _ _ _) rfl (by first | decide | omega) dc12_heresy_11 rfl rfl (Nat.le_of_ble_eq_true rfl) ⟨Nat.le_of_ble_eq_true rfl, Nat.le_of_ble_eq_true rfl⟩ (fun p11 => ?_)
  refine s_if_eq hG 25 dc12_heresy_14 (by decide) ?_ ?_
  · refine s_iconst (v := 0) hG dc12_heresy_25 (by decide) ?_
    exact s_zret hG dc12_heresy_26 rfl (Nat.le_of_ble_eq_true rfl) (Nat.le_of_ble_eq_true rfl)
  · refine s_iload_n hG dc12_heresy_17 rfl ?_
    refine s_aload_n hG dc12_heresy_18 rfl ?_
    refine s_getI hG kFc12_360 rfl dc12_heresy_19 (fun v19 => ?_)
    refine s_icmp_ne hG 27 dc12_heresy_22 (by decide) ?_ ?_
    · refine s_aload_n hG dc12_heresy_27 rfl ?_
      refine s_iload_n hG dc12_heresy_28 rfl ?_
      refine s_putI (fin := false) hG kFc12_360 rfl (fun h => by cases h) rfl (fun _ => rfl) (fun _ => rfl) dc12_heresy_29 (fun σ29 => ?_)
      refine s_iconst (v := 1) hG dc12_heresy_32 (by decide) ?_
      exact s_zret hG dc12_heresy_33 rfl (Nat.le_of_ble_eq_true rfl) (Nat.le_of_ble_eq_true rfl)
    · refine s_iconst (v := 0) hG dc12_heresy_25 (by decide) ?_
      exact s_zret hG dc12_heresy_26 rfl (Nat.le_of_ble_eq_true rfl) (Nat.le_of_ble_eq_true rfl)
def fc12_isRain (N : Nat) (x0 : Int32) (σ : Me) : Option (Int32 × Me) :=
  (fc12_isIn N (Int32.toInt64 x0) (0 : Int64) (99 : Int64) σ).bind fun p6 =>
  retZ p6.1 p6.2
set_option maxRecDepth 20000 in
set_option maxHeartbeats 2000000 in
theorem corc12_isRain {Ω : Om} (N : Nat) (x0 : Int32) (σ : Me) : Cor Ω tc12_isRain 2 0 0 [vI x0] σ ιI (fc12_isRain N x0 σ) := by
  refine Cor.of (by decide +kernel) (Nat.le_of_ble_eq_true rfl) (fun Γ hG => ?_)
  unfold fc12_isRain
  show Sim Ω Γ 0 0 ιI 1 0 [(0, vI x0)] [] σ 0 0 _
  refine s_iload_n hG dc12_isRain_0 rfl ?_
  refine s_i2l hG dc12_isRain_1 ?_
  refine s_lconst (v := 0) hG dc12_isRain_2 (by decide) ?_
  refine s_ldc2 hG dc12_isRain_3 kJc12_302 ?_
  refine s_callSi hG kMc12_221 (corc12_isIn N _ _ _ _) rfl (by first | decide | omega) dc12_isRain_6 rfl rfl (Nat.le_of_ble_eq_true rfl) ⟨Nat.le_of_ble_eq_true rfl, Nat.le_of_ble_eq_true rfl⟩ (fun p6 => ?_)
  exact s_zret hG dc12_isRain_9 rfl (Nat.le_of_ble_eq_true rfl) (Nat.le_of_ble_eq_true rfl)
def fc12_remember_52 (N : Nat) : Nat → Option Nat → Int32 → Me → Option (Unit × Me)
  | 0, _, _, _ => none
  | n + 1, l0, l1, σ =>
    if (207 : Int32) ≤ l1 then
      (qI σ 12 39 l0).bind fun v88 =>
      (pI σ 12 39 l0 (v88 + (1 : Int32))).bind fun σ93 =>
      some ((), σ93)
    else
      (qR σ 12 38 l0).bind fun v60 =>
      (qI σ 12 39 l0).bind fun v67 =>
      (qR σ 12 28 l0).bind fun v74 =>
      (ldI σ v74 l1).bind fun v78 =>
      (stI σ v60 (((207 : Int32) * v67) + l1) v78).bind fun σ79 =>
      (fc12_remember_52 N n) l0 (l1 + (1 : Int32)) σ79
def fc12_remember_50 (N : Nat) (l0 : Option Nat) (σ : Me) : Option (Unit × Me) :=
  fc12_remember_52 N N l0 (0 : Int32) σ
def fc12_remember_11 (N : Nat) : Nat → Option Nat → Int32 → Me → Option (Unit × Me)
  | 0, _, _, _ => none
  | n + 1, l0, l1, σ =>
    if (8073 : Int32) ≤ l1 then
      (qI σ 12 39 l0).bind fun v42 =>
      (pI σ 12 39 l0 (v42 - (1 : Int32))).bind fun σ47 =>
      fc12_remember_50 N l0 σ47
    else
      (qR σ 12 38 l0).bind fun v19 =>
      (qR σ 12 38 l0).bind fun v24 =>
      (ldI σ v24 (l1 + (207 : Int32))).bind fun v32 =>
      (stI σ v19 l1 v32).bind fun σ33 =>
      (fc12_remember_11 N n) l0 (l1 + (1 : Int32)) σ33
def fc12_remember (N : Nat) (a0 : Nat) (σ : Me) : Option (Unit × Me) :=
  (qI σ 12 39 (some a0)).bind fun v1 =>
  if v1 = (40 : Int32) then
    fc12_remember_11 N N (some a0) (0 : Int32) σ
  else
    fc12_remember_50 N (some a0) σ
set_option maxRecDepth 20000 in
set_option maxHeartbeats 2000000 in
theorem pc12_remember_52 {Ω : Om} {Γ : Ga} {N : Nat} (hG : Good Ω Γ tc12_remember 1 0 0) : ∀ (n : Nat) (l0 : Option Nat) (l1 : Int32) (σ : Me), Sim Ω Γ 0 0 ιV 2 52 [(0, vR l0), (1, vI l1)] [] σ 0 0 (fc12_remember_52 N n l0 l1 σ) := by
  intro n
  induction n with
  | zero => intros; exact s_none
  | succ n ih =>
    intro l0 l1 σ
    unfold fc12_remember_52
    refine s_iload_n hG dc12_remember_52 rfl ?_
    refine s_sipush (v := 207) hG dc12_remember_53 (by decide) ?_
    refine s_icmp_ge hG 86 dc12_remember_56 (by decide) ?_ ?_
    · refine s_aload_n hG dc12_remember_86 rfl ?_
      refine s_dup hG dc12_remember_87 rfl ?_
      refine s_getI hG kFc12_296 rfl dc12_remember_88 (fun v88 => ?_)
      refine s_iconst (v := 1) hG dc12_remember_91 (by decide) ?_
      refine s_iadd hG dc12_remember_92 ?_
      refine s_putI (fin := false) hG kFc12_296 rfl (fun h => by cases h) rfl (fun _ => rfl) (fun _ => rfl) dc12_remember_93 (fun σ93 => ?_)
      exact s_vret hG dc12_remember_96 rfl (Nat.le_of_ble_eq_true rfl) (Nat.le_of_ble_eq_true rfl)
    · refine s_aload_n hG dc12_remember_59 rfl ?_
      refine s_getR hG kFc12_78 rfl dc12_remember_60 (fun v60 => ?_)
      refine s_sipush (v := 207) hG dc12_remember_63 (by decide) ?_
      refine s_aload_n hG dc12_remember_66 rfl ?_
      refine s_getI hG kFc12_296 rfl dc12_remember_67 (fun v67 => ?_)
      refine s_imul hG dc12_remember_70 ?_
      refine s_iload_n hG dc12_remember_71 rfl ?_
      refine s_iadd hG dc12_remember_72 ?_
      refine s_aload_n hG dc12_remember_73 rfl ?_
      refine s_getR hG kFc12_55 rfl dc12_remember_74 (fun v74 => ?_)
      refine s_iload_n hG dc12_remember_77 rfl ?_
      refine s_iald hG dc12_remember_78 (fun v78 => ?_)
      refine s_iast hG dc12_remember_79 (fun σ79 => ?_)
      refine s_iinc (v := 1) hG dc12_remember_80 rfl (by decide) (by decide) ?_
      refine s_goto hG 52 dc12_remember_83 (by decide) ?_
      exact s_lv (lc rfl (lc rfl ln)) (ih _ _ _)
set_option maxRecDepth 20000 in
set_option maxHeartbeats 2000000 in
theorem pc12_remember_50 {Ω : Om} {Γ : Ga} {N : Nat} (hG : Good Ω Γ tc12_remember 1 0 0) (l0 : Option Nat) (σ : Me) : Sim Ω Γ 0 0 ιV 2 50 [(0, vR l0)] [] σ 0 0 (fc12_remember_50 N l0 σ) := by
  unfold fc12_remember_50
  refine s_iconst (v := 0) hG dc12_remember_50 (by decide) ?_
  refine s_istore_n hG dc12_remember_51 (by decide) ?_
  exact s_lv (lc rfl (lc rfl ln)) (pc12_remember_52 hG _ _ _ _)
set_option maxRecDepth 20000 in
set_option maxHeartbeats 2000000 in
theorem pc12_remember_11 {Ω : Om} {Γ : Ga} {N : Nat} (hG : Good Ω Γ tc12_remember 1 0 0) : ∀ (n : Nat) (l0 : Option Nat) (l1 : Int32) (σ : Me), Sim Ω Γ 0 0 ιV 2 11 [(0, vR l0), (1, vI l1)] [] σ 0 0 (fc12_remember_11 N n l0 l1 σ) := by
  intro n
  induction n with
  | zero => intros; exact s_none
  | succ n ih =>
    intro l0 l1 σ
    unfold fc12_remember_11
    refine s_iload_n hG dc12_remember_11 rfl ?_
    refine s_sipush (v := 8073) hG dc12_remember_12 (by decide) ?_
    refine s_icmp_ge hG 40 dc12_remember_15 (by decide) ?_ ?_
    · refine s_aload_n hG dc12_remember_40 rfl ?_
      refine s_dup hG dc12_remember_41 rfl ?_
      refine s_getI hG kFc12_296 rfl dc12_remember_42 (fun v42 => ?_)
      refine s_iconst (v := 1) hG dc12_remember_45 (by decide) ?_
      refine s_isub hG dc12_remember_46 ?_
      refine s_putI (fin := false) hG kFc12_296 rfl (fun h => by cases h) rfl (fun _ => rfl) (fun _ => rfl) dc12_remember_47 (fun σ47 => ?_)
      exact s_lv (lc rfl ln) (pc12_remember_50 hG _ _)
    · refine s_aload_n hG dc12_remember_18 rfl ?_
      refine s_getR hG kFc12_78 rfl dc12_remember_19 (fun v19 => ?_)
      refine s_iload_n hG dc12_remember_22 rfl ?_
      refine s_aload_n hG dc12_remember_23 rfl ?_
      refine s_getR hG kFc12_78 rfl dc12_remember_24 (fun v24 => ?_)
      refine s_iload_n hG dc12_remember_27 rfl ?_
      refine s_sipush (v := 207) hG dc12_remember_28 (by decide) ?_
      refine s_iadd hG dc12_remember_31 ?_
      refine s_iald hG dc12_remember_32 (fun v32 => ?_)
      refine s_iast hG dc12_remember_33 (fun σ33 => ?_)
      refine s_iinc (v := 1) hG dc12_remember_34 rfl (by decide) (by decide) ?_
      refine s_goto hG 11 dc12_remember_37 (by decide) ?_
      exact s_lv (lc rfl (lc rfl ln)) (ih _ _ _)
set_option maxRecDepth 20000 in
set_option maxHeartbeats 2000000 in
theorem corc12_remember {Ω : Om} (N : Nat) (a0 : Nat) (σ : Me) : Cor Ω tc12_remember 1 0 0 [vR (some a0)] σ ιV (fc12_remember N a0 σ) := by
  refine Cor.of (by decide +kernel) (Nat.le_of_ble_eq_true rfl) (fun Γ hG => ?_)
  unfold fc12_remember
  show Sim Ω Γ 0 0 ιV 2 0 [(0, vR (some a0))] [] σ 0 0 _
  refine s_aload_n hG dc12_remember_0 rfl ?_
  refine s_getI hG kFc12_296 rfl dc12_remember_1 (fun v1 => ?_)
  refine s_bipush (v := 40) hG dc12_remember_4 (by decide) ?_
  refine s_icmp_ne hG 50 dc12_remember_6 (by decide) ?_ ?_
  · exact s_lv (lc rfl ln) (pc12_remember_50 hG _ _)
  · refine s_iconst (v := 0) hG dc12_remember_9 (by decide) ?_
    refine s_istore_n hG dc12_remember_10 (by decide) ?_
    exact s_lv (lc rfl (lc rfl ln)) (pc12_remember_11 hG _ _ _ _)
def fc12_withInterest (N : Nat) (a0 : Nat) (x1 : Int32) (σ : Me) : Option (Int32 × Me) :=
  (qR σ 12 18 (some a0)).bind fun v6 =>
  (ldI σ v6 (0 : Int32)).bind fun v10 =>
  (dvI (x1 * v10) (10 : Int32)).bind fun v14 =>
  (fMt_min N (999 : Int32) (x1 + v14) σ).bind fun p16 =>
  some (p16.1, p16.2)
set_option maxRecDepth 20000 in
set_option maxHeartbeats 2000000 in
theorem corc12_withInterest {Ω : Om} (N : Nat) (a0 : Nat) (x1 : Int32) (σ : Me) : Cor Ω tc12_withInterest 2 0 0 [vR (some a0), vI x1] σ ιI (fc12_withInterest N a0 x1 σ) := by
  refine Cor.of (by decide +kernel) (Nat.le_of_ble_eq_true rfl) (fun Γ hG => ?_)
  unfold fc12_withInterest
  show Sim Ω Γ 0 0 ιI 2 0 [(0, vR (some a0)), (1, vI x1)] [] σ 0 0 _
  refine s_sipush (v := 999) hG dc12_withInterest_0 (by decide) ?_
  refine s_iload_n hG dc12_withInterest_3 rfl ?_
  refine s_iload_n hG dc12_withInterest_4 rfl ?_
  refine s_aload_n hG dc12_withInterest_5 rfl ?_
  refine s_getR hG kFc12_37 rfl dc12_withInterest_6 (fun v6 => ?_)
  refine s_iconst (v := 0) hG dc12_withInterest_9 (by decide) ?_
  refine s_iald hG dc12_withInterest_10 (fun v10 => ?_)
  refine s_imul hG dc12_withInterest_11 ?_
  refine s_bipush (v := 10) hG dc12_withInterest_12 (by decide) ?_
  refine s_idiv hG dc12_withInterest_14 (fun v14 => ?_)
  refine s_iadd hG dc12_withInterest_15 ?_
  refine s_callSi hG kMc12_324 (corMt_min N _ _ _) rfl (by first | decide | omega) dc12_withInterest_16 rfl rfl (Nat.le_of_ble_eq_true rfl) ⟨Nat.le_of_ble_eq_true rfl, Nat.le_of_ble_eq_true rfl⟩ (fun p16 => ?_)
  exact s_iret hG dc12_withInterest_19 rfl (Nat.le_of_ble_eq_true rfl) (Nat.le_of_ble_eq_true rfl)
def fc12_nextIn_49 (N : Nat) (K5 : Option Nat → Option Nat → Int32 → Int32 → Int32 → Me → Option (Int32 × Me)) (l0 : Option Nat) (l1 : Option Nat) (l2 : Int32) (l3 : Int32) (l4 : Int32) (σ : Me) : Option (Int32 × Me) :=
  K5 l0 l1 l2 l3 (l4 + (1 : Int32)) σ
def fc12_nextIn_46 (N : Nat) (K5 : Option Nat → Option Nat → Int32 → Int32 → Int32 → Me → Option (Int32 × Me)) (l0 : Option Nat) (l1 : Option Nat) (l2 : Int32) (l4 : Int32) (σ : Me) : Option (Int32 × Me) :=
  fc12_nextIn_49 N K5 l0 l1 l2 l4 l4 σ
def fc12_nextIn_5 (N : Nat) : Nat → Option Nat → Option Nat → Int32 → Int32 → Int32 → Me → Option (Int32 × Me)
  | 0, _, _, _, _, _, _ => none
  | n + 1, l0, l1, l2, l3, l4, σ =>
    (qI σ 12 24 l0).bind fun v8 =>
    if v8 ≤ l4 then
      some (l3, σ)
    else
      (fc12_has N l2 l4 σ).bind fun p17 =>
      if p17.1 = 0 then
        if l3 = (-1 : Int32) then
          fc12_nextIn_46 N (fc12_nextIn_5 N n) l0 l1 l2 l4 p17.2
        else
          (ldI p17.2 l1 (((4 : Int32) * l4) + (0 : Int32))).bind fun v35 =>
          (ldI p17.2 l1 (((4 : Int32) * l3) + (0 : Int32))).bind fun v42 =>
          if v35 ≤ v42 then
            fc12_nextIn_49 N (fc12_nextIn_5 N n) l0 l1 l2 l3 l4 p17.2
          else
            fc12_nextIn_46 N (fc12_nextIn_5 N n) l0 l1 l2 l4 p17.2
      else
        fc12_nextIn_49 N (fc12_nextIn_5 N n) l0 l1 l2 l3 l4 p17.2
def fc12_nextIn (N : Nat) (a0 : Nat) (x1 : Option Nat) (x2 : Int32) (σ : Me) : Option (Int32 × Me) :=
  fc12_nextIn_5 N N (some a0) x1 x2 (-1 : Int32) (0 : Int32) σ
set_option maxRecDepth 20000 in
set_option maxHeartbeats 2000000 in
theorem pc12_nextIn_49 {Ω : Om} {Γ : Ga} {N : Nat} (hG : Good Ω Γ tc12_nextIn 2 0 0) {K5 : Option Nat → Option Nat → Int32 → Int32 → Int32 → Me → Option (Int32 × Me)} (hK5 : ∀ (l0 : Option Nat) (l1 : Option Nat) (l2 : Int32) (l3 : Int32) (l4 : Int32) (σ : Me), Sim Ω Γ 0 0 ιI 5 5 [(0, vR l0), (1, vR l1), (2, vI l2), (3, vI l3), (4, vI l4)] [] σ 0 0 (K5 l0 l1 l2 l3 l4 σ)) (l0 : Option Nat) (l1 : Option Nat) (l2 : Int32) (l3 : Int32) (l4 : Int32) (σ : Me) : Sim Ω Γ 0 0 ιI 5 49 [(0, vR l0), (1, vR l1), (2, vI l2), (3, vI l3), (4, vI l4)] [] σ 0 0 (fc12_nextIn_49 N K5 l0 l1 l2 l3 l4 σ) := by
  unfold fc12_nextIn_49
  refine s_iinc (v := 1) hG dc12_nextIn_49 rfl (by decide) (by decide) ?_
  refine s_goto hG 5 dc12_nextIn_52 (by decide) ?_
  exact s_lv (lc rfl (lc rfl (lc rfl (lc rfl (lc rfl ln))))) (hK5 _ _ _ _ _ _)
set_option maxRecDepth 20000 in
set_option maxHeartbeats 2000000 in
theorem pc12_nextIn_46 {Ω : Om} {Γ : Ga} {N : Nat} (hG : Good Ω Γ tc12_nextIn 2 0 0) {K5 : Option Nat → Option Nat → Int32 → Int32 → Int32 → Me → Option (Int32 × Me)} (hK5 : ∀ (l0 : Option Nat) (l1 : Option Nat) (l2 : Int32) (l3 : Int32) (l4 : Int32) (σ : Me), Sim Ω Γ 0 0 ιI 5 5 [(0, vR l0), (1, vR l1), (2, vI l2), (3, vI l3), (4, vI l4)] [] σ 0 0 (K5 l0 l1 l2 l3 l4 σ)) (l0 : Option Nat) (l1 : Option Nat) (l2 : Int32) (l4 : Int32) (σ : Me) : Sim Ω Γ 0 0 ιI 5 46 [(0, vR l0), (1, vR l1), (2, vI l2), (4, vI l4)] [] σ 0 0 (fc12_nextIn_46 N K5 l0 l1 l2 l4 σ) := by
  unfold fc12_nextIn_46
  refine s_iload hG dc12_nextIn_46 rfl ?_
  refine s_istore_n hG dc12_nextIn_48 (by decide) ?_
  exact s_lv (lc rfl (lc rfl (lc rfl (lc rfl (lc rfl ln))))) (pc12_nextIn_49 hG hK5 _ _ _ _ _ _)
set_option maxRecDepth 20000 in
set_option maxHeartbeats 2000000 in
theorem pc12_nextIn_5 {Ω : Om} {Γ : Ga} {N : Nat} (hG : Good Ω Γ tc12_nextIn 2 0 0) : ∀ (n : Nat) (l0 : Option Nat) (l1 : Option Nat) (l2 : Int32) (l3 : Int32) (l4 : Int32) (σ : Me), Sim Ω Γ 0 0 ιI 5 5 [(0, vR l0), (1, vR l1), (2, vI l2), (3, vI l3), (4, vI l4)] [] σ 0 0 (fc12_nextIn_5 N n l0 l1 l2 l3 l4 σ) := by
  intro n
  induction n with
  | zero => intros; exact s_none
  | succ n ih =>
    intro l0 l1 l2 l3 l4 σ
    unfold fc12_nextIn_5
    refine s_iload hG dc12_nextIn_5 rfl ?_
    refine s_aload_n hG dc12_nextIn_7 rfl ?_
    refine s_getI hG kFc12_290 rfl dc12_nextIn_8 (fun v8 => ?_)
    refine s_icmp_ge hG 55 dc12_nextIn_11 (by decide) ?_ ?_
    · refine s_iload_n hG dc12_nextIn_55 rfl ?_
      exact s_iret hG dc12_nextIn_56 rfl (Nat.le_of_ble_eq_true rfl) (Nat.le_of_ble_eq_true rfl)
    · refine s_iload_n hG dc12_nextIn_14 rfl ?_
      refine s_iload hG dc12_nextIn_15 rfl ?_
      refine s_callSi hG kMc12_233 (corc12_has N _ _ _) rfl (by first | decide | omega) dc12_nextIn_17 rfl rfl (Nat.le_of_ble_eq_true rfl) ⟨Nat.le_of_ble_eq_true rfl, Nat.le_of_ble_eq_true rfl⟩ (fun p17 => ?_)
      refine s_if_ne hG 49 dc12_nextIn_20 (by decide) ?_ ?_
      · exact s_lv (lc rfl (lc rfl (lc rfl (lc rfl (lc rfl ln))))) (pc12_nextIn_49 hG ih _ _ _ _ _ _)
      · refine s_iload_n hG dc12_nextIn_23 rfl ?_
        refine s_iconst (v := -1) hG dc12_nextIn_24 (by decide) ?_
        refine s_icmp_eq hG 46 dc12_nextIn_25 (by decide) ?_ ?_
        · exact s_lv (lc rfl (lc rfl (lc rfl (lc rfl ln)))) (pc12_nextIn_46 hG ih _ _ _ _ _)
        · refine s_aload_n hG dc12_nextIn_28 rfl ?_
          refine s_iconst (v := 4) hG dc12_nextIn_29 (by decide) ?_
          refine s_iload hG dc12_nextIn_30 rfl ?_
          refine s_imul hG dc12_nextIn_32 ?_
          refine s_iconst (v := 0) hG dc12_nextIn_33 (by decide) ?_
          refine s_iadd hG dc12_nextIn_34 ?_
          refine s_iald hG dc12_nextIn_35 (fun v35 => ?_)
          refine s_aload_n hG dc12_nextIn_36 rfl ?_
          refine s_iconst (v := 4) hG dc12_nextIn_37 (by decide) ?_
          refine s_iload_n hG dc12_nextIn_38 rfl ?_
          refine s_imul hG dc12_nextIn_39 ?_
          refine s_iconst (v := 0) hG dc12_nextIn_40 (by decide) ?_
          refine s_iadd hG dc12_nextIn_41 ?_
          refine s_iald hG dc12_nextIn_42 (fun v42 => ?_)
          refine s_icmp_le hG 49 dc12_nextIn_43 (by decide) ?_ ?_
          · exact s_lv (lc rfl (lc rfl (lc rfl (lc rfl (lc rfl ln))))) (pc12_nextIn_49 hG ih _ _ _ _ _ _)
          · exact s_lv (lc rfl (lc rfl (lc rfl (lc rfl ln)))) (pc12_nextIn_46 hG ih _ _ _ _ _)
set_option maxRecDepth 20000 in
set_option maxHeartbeats 2000000 in
theorem corc12_nextIn {Ω : Om} (N : Nat) (a0 : Nat) (x1 : Option Nat) (x2 : Int32) (σ : Me) : Cor Ω tc12_nextIn 2 0 0 [vR (some a0), vR x1, vI x2] σ ιI (fc12_nextIn N a0 x1 x2 σ) := by
  refine Cor.of (by decide +kernel) (Nat.le_of_ble_eq_true rfl) (fun Γ hG => ?_)
  unfold fc12_nextIn
  show Sim Ω Γ 0 0 ιI 5 0 [(0, vR (some a0)), (1, vR x1), (2, vI x2)] [] σ 0 0 _
  refine s_iconst (v := -1) hG dc12_nextIn_0 (by decide) ?_
  refine s_istore_n hG dc12_nextIn_1 (by decide) ?_
  refine s_iconst (v := 0) hG dc12_nextIn_2 (by decide) ?_
  refine s_istore hG dc12_nextIn_3 (by decide) ?_
  exact s_lv (lc rfl (lc rfl (lc rfl (lc rfl (lc rfl ln))))) (pc12_nextIn_5 hG _ _ _ _ _ _ _)
def fc12_canSell (N : Nat) (a0 : Nat) (x1 : Option Nat) (x2 : Int32) (x3 : Int32) (x4 : Int32) (σ : Me) : Option (Int32 × Me) :=
  (dr σ (some a0) (.inl 12)).bind fun a =>
  (fc12_isField N a x2 σ).bind fun p2 =>
  if p2.1 = 0 then
    retZ (0 : Int32) p2.2
  else
    (dr p2.2 (some a0) (.inl 12)).bind fun a =>
    (fc12_isField N a x3 p2.2).bind fun p10 =>
    if p10.1 = 0 then
      retZ (0 : Int32) p10.2
    else
      if x2 = x3 then
        retZ (0 : Int32) p10.2
      else
        (ldI p10.2 x1 (((4 : Int32) * x2) + (0 : Int32))).bind fun v27 =>
        if x4 ≤ v27 then
          (ldI p10.2 x1 (24 : Int32)).bind fun v40 =>
          (ldI p10.2 x1 (((4 : Int32) * x3) + (3 : Int32))).bind fun v50 =>
          if v50 < (x4 * v40) then
            retZ (0 : Int32) p10.2
          else
            (ldI p10.2 x1 (((4 : Int32) * x2) + (3 : Int32))).bind fun v62 =>
            if (999 : Int32) < (v62 + (x4 * v40)) then
              retZ (0 : Int32) p10.2
            else
              retZ (1 : Int32) p10.2
        else
          retZ (0 : Int32) p10.2
set_option maxRecDepth 20000 in
set_option maxHeartbeats 2000000 in
theorem corc12_canSell {Ω : Om} (N : Nat) (a0 : Nat) (x1 : Option Nat) (x2 : Int32) (x3 : Int32) (x4 : Int32) (σ : Me) : Cor Ω tc12_canSell 2 0 0 [vR (some a0), vR x1, vI x2, vI x3, vI x4] σ ιI (fc12_canSell N a0 x1 x2 x3 x4 σ) := by
  refine Cor.of (by decide +kernel) (Nat.le_of_ble_eq_true rfl) (fun Γ hG => ?_)
  unfold fc12_canSell
  show Sim Ω Γ 0 0 ιI 6 0 [(0, vR (some a0)), (1, vR x1), (2, vI x2), (3, vI x3), (4, vI x4)] [] σ 0 0 _
  refine s_aload_n hG dc12_canSell_0 rfl ?_
  refine s_iload_n hG dc12_canSell_1 rfl ?_
  refine s_callVi hG kMc12_353 (fun a => corc12_isField N a _ _) ⟨by decide, rfl⟩ rfl (by first | decide | omega) dc12_canSell_2 rfl rfl (Nat.le_of_ble_eq_true rfl) ⟨Nat.le_of_ble_eq_true rfl, Nat.le_of_ble_eq_true rfl⟩ (fun p2 => ?_)
  refine s_if_eq hG 33 dc12_canSell_5 (by decide) ?_ ?_
  · refine s_iconst (v := 0) hG dc12_canSell_33 (by decide) ?_
    exact s_zret hG dc12_canSell_34 rfl (Nat.le_of_ble_eq_true rfl) (Nat.le_of_ble_eq_true rfl)
  · refine s_aload_n hG dc12_canSell_8 rfl ?_
    refine s_iload_n hG dc12_canSell_9 rfl ?_
    refine s_callVi hG kMc12_353 (fun a => corc12_isField N a _ _) ⟨by decide, rfl⟩ rfl (by first | decide | omega) dc12_canSell_10 rfl rfl (Nat.le_of_ble_eq_true rfl) ⟨Nat.le_of_ble_eq_true rfl, Nat.le_of_ble_eq_true rfl⟩ (fun p10 => ?_)
    refine s_if_eq hG 33 dc12_canSell_13 (by decide) ?_ ?_
    · refine s_iconst (v := 0) hG dc12_canSell_33 (by decide) ?_
      exact s_zret hG dc12_canSell_34 rfl (Nat.le_of_ble_eq_true rfl) (Nat.le_of_ble_eq_true rfl)
    · refine s_iload_n hG dc12_canSell_16 rfl ?_
      refine s_iload_n hG dc12_canSell_17 rfl ?_
      refine s_icmp_eq hG 33 dc12_canSell_18 (by decide) ?_ ?_
      · refine s_iconst (v := 0) hG dc12_canSell_33 (by decide) ?_
        exact s_zret hG dc12_canSell_34 rfl (Nat.le_of_ble_eq_true rfl) (Nat.le_of_ble_eq_true rfl)
      · refine s_aload_n hG dc12_canSell_21 rfl ?_
        refine s_iconst (v := 4) hG dc12_canSell_22 (by decide) ?_
        refine s_iload_n hG dc12_canSell_23 rfl ?_
        refine s_imul hG dc12_canSell_24 ?_
        refine s_iconst (v := 0) hG dc12_canSell_25 (by decide) ?_
        refine s_iadd hG dc12_canSell_26 ?_
        refine s_iald hG dc12_canSell_27 (fun v27 => ?_)
        refine s_iload hG dc12_canSell_28 rfl ?_
        refine s_icmp_ge hG 35 dc12_canSell_30 (by decide) ?_ ?_
        · refine s_iload hG dc12_canSell_35 rfl ?_
          refine s_aload_n hG dc12_canSell_37 rfl ?_
          refine s_bipush (v := 24) hG dc12_canSell_38 (by decide) ?_
          refine s_iald hG dc12_canSell_40 (fun v40 => ?_)
          refine s_imul hG dc12_canSell_41 ?_
          refine s_istore hG dc12_canSell_42 (by decide) ?_
          refine s_aload_n hG dc12_canSell_44 rfl ?_
          refine s_iconst (v := 4) hG dc12_canSell_45 (by decide) ?_
          refine s_iload_n hG dc12_canSell_46 rfl ?_
          refine s_imul hG dc12_canSell_47 ?_
          refine s_iconst (v := 3) hG dc12_canSell_48 (by decide) ?_
          refine s_iadd hG dc12_canSell_49 ?_
          refine s_iald hG dc12_canSell_50 (fun v50 => ?_)
          refine s_iload hG dc12_canSell_51 rfl ?_
          refine s_icmp_lt hG 76 dc12_canSell_53 (by decide) ?_ ?_
          · refine s_iconst (v := 0) hG dc12_canSell_76 (by decide) ?_
            exact s_zret hG dc12_canSell_77 rfl (Nat.le_of_ble_eq_true rfl) (Nat.le_of_ble_eq_true rfl)
          · refine s_aload_n hG dc12_canSell_56 rfl ?_
            refine s_iconst (v := 4) hG dc12_canSell_57 (by decide) ?_
            refine s_iload_n hG dc12_canSell_58 rfl ?_
            refine s_imul hG dc12_canSell_59 ?_
            refine s_iconst (v := 3) hG dc12_canSell_60 (by decide) ?_
            refine s_iadd hG dc12_canSell_61 ?_
            refine s_iald hG dc12_canSell_62 (fun v62 => ?_)
            refine s_iload hG dc12_canSell_63 rfl ?_
            refine s_iadd hG dc12_canSell_65 ?_
            refine s_sipush (v := 999) hG dc12_canSell_66 (by decide) ?_
            refine s_icmp_gt hG 76 dc12_canSell_69 (by decide) ?_ ?_
            · refine s_iconst (v := 0) hG dc12_canSell_76 (by decide) ?_
              exact s_zret hG dc12_canSell_77 rfl (Nat.le_of_ble_eq_true rfl) (Nat.le_of_ble_eq_true rfl)
            · refine s_iconst (v := 1) hG dc12_canSell_72 (by decide) ?_
              refine s_goto hG 77 dc12_canSell_73 (by decide) ?_
              exact s_zret hG dc12_canSell_77 rfl (Nat.le_of_ble_eq_true rfl) (Nat.le_of_ble_eq_true rfl)
        · refine s_iconst (v := 0) hG dc12_canSell_33 (by decide) ?_
          exact s_zret hG dc12_canSell_34 rfl (Nat.le_of_ble_eq_true rfl) (Nat.le_of_ble_eq_true rfl)
def fc12_sells (N : Nat) (x0 : Option Nat) (x1 : Int32) (x2 : Int32) (x3 : Int32) (σ : Me) : Option (Unit × Me) :=
  (ldI σ x0 (24 : Int32)).bind fun v4 =>
  (ldI σ x0 (((4 : Int32) * x1) + (0 : Int32))).bind fun v15 =>
  (stI σ x0 (((4 : Int32) * x1) + (0 : Int32)) (v15 - x3)).bind fun σ18 =>
  (ldI σ18 x0 (((4 : Int32) * x2) + (0 : Int32))).bind fun v34 =>
  (fMt_min N (999 : Int32) (v34 + x3) σ18).bind fun p37 =>
  (stI p37.2 x0 (((4 : Int32) * x2) + (0 : Int32)) p37.1).bind fun σ40 =>
  (ldI σ40 x0 (((4 : Int32) * x1) + (3 : Int32))).bind fun v48 =>
  (stI σ40 x0 (((4 : Int32) * x1) + (3 : Int32)) (v48 + (x3 * v4))).bind fun σ52 =>
  (ldI σ52 x0 (((4 : Int32) * x2) + (3 : Int32))).bind fun v60 =>
  (stI σ52 x0 (((4 : Int32) * x2) + (3 : Int32)) (v60 - (x3 * v4))).bind fun σ64 =>
  some ((), σ64)
set_option maxRecDepth 20000 in
set_option maxHeartbeats 2000000 in
theorem corc12_sells {Ω : Om} (N : Nat) (x0 : Option Nat) (x1 : Int32) (x2 : Int32) (x3 : Int32) (σ : Me) : Cor Ω tc12_sells 2 0 0 [vR x0, vI x1, vI x2, vI x3] σ ιV (fc12_sells N x0 x1 x2 x3 σ) := by
  refine Cor.of (by decide +kernel) (Nat.le_of_ble_eq_true rfl) (fun Γ hG => ?_)
  unfold fc12_sells
  show Sim Ω Γ 0 0 ιV 5 0 [(0, vR x0), (1, vI x1), (2, vI x2), (3, vI x3)] [] σ 0 0 _
  refine s_iload_n hG dc12_sells_0 rfl ?_
  refine s_aload_n hG dc12_sells_1 rfl ?_
  refine s_bipush (v := 24) hG dc12_sells_2 (by decide) ?_
  refine s_iald hG dc12_sells_4 (fun v4 => ?_)
  refine s_imul hG dc12_sells_5 ?_
  refine s_istore hG dc12_sells_6 (by decide) ?_
  refine s_aload_n hG dc12_sells_8 rfl ?_
  refine s_iconst (v := 4) hG dc12_sells_9 (by decide) ?_
  refine s_iload_n hG dc12_sells_10 rfl ?_
  refine s_imul hG dc12_sells_11 ?_
  refine s_iconst (v := 0) hG dc12_sells_12 (by decide) ?_
  refine s_iadd hG dc12_sells_13 ?_
  refine s_dup2 hG dc12_sells_14 rfl rfl ?_
  refine s_iald hG dc12_sells_15 (fun v15 => ?_)
  refine s_iload_n hG dc12_sells_16 rfl ?_
  refine s_isub hG dc12_sells_17 ?_
  refine s_iast hG dc12_sells_18 (fun σ18 => ?_)
  refine s_aload_n hG dc12_sells_19 rfl ?_
  refine s_iconst (v := 4) hG dc12_sells_20 (by decide) ?_
  refine s_iload_n hG dc12_sells_21 rfl ?_
  refine s_imul hG dc12_sells_22 ?_
  refine s_iconst (v := 0) hG dc12_sells_23 (by decide) ?_
  refine s_iadd hG dc12_sells_24 ?_
  refine s_sipush (v := 999) hG dc12_sells_25 (by decide) ?_
  refine s_aload_n hG dc12_sells_28 rfl ?_
  refine s_iconst (v := 4) hG dc12_sells_29 (by decide) ?_
  refine s_iload_n hG dc12_sells_30 rfl ?_
  refine s_imul hG dc12_sells_31 ?_
  refine s_iconst (v := 0) hG dc12_sells_32 (by decide) ?_
  refine s_iadd hG dc12_sells_33 ?_
  refine s_iald hG dc12_sells_34 (fun v34 => ?_)
  refine s_iload_n hG dc12_sells_35 rfl ?_
  refine s_iadd hG dc12_sells_36 ?_
  refine s_callSi hG kMc12_324 (corMt_min N _ _ _) rfl (by first | decide | omega) dc12_sells_37 rfl rfl (Nat.le_of_ble_eq_true rfl) ⟨Nat.le_of_ble_eq_true rfl, Nat.le_of_ble_eq_true rfl⟩ (fun p37 => ?_)
  refine s_iast hG dc12_sells_40 (fun σ40 => ?_)
  refine s_aload_n hG dc12_sells_41 rfl ?_
  refine s_iconst (v := 4) hG dc12_sells_42 (by decide) ?_
  refine s_iload_n hG dc12_sells_43 rfl ?_
  refine s_imul hG dc12_sells_44 ?_
  refine s_iconst (v := 3) hG dc12_sells_45 (by decide) ?_
  refine s_iadd hG dc12_sells_46 ?_
  refine s_dup2 hG dc12_sells_47 rfl rfl ?_
  refine s_iald hG dc12_sells_48 (fun v48 => ?_)
  refine s_iload hG dc12_sells_49 rfl ?_
  refine s_iadd hG dc12_sells_51 ?_
  refine s_iast hG dc12_sells_52 (fun σ52 => ?_)
  refine s_aload_n hG dc12_sells_53 rfl ?_
  refine s_iconst (v := 4) hG dc12_sells_54 (by decide) ?_
  refine s_iload_n hG dc12_sells_55 rfl ?_
  refine s_imul hG dc12_sells_56 ?_
  refine s_iconst (v := 3) hG dc12_sells_57 (by decide) ?_
  refine s_iadd hG dc12_sells_58 ?_
  refine s_dup2 hG dc12_sells_59 rfl rfl ?_
  refine s_iald hG dc12_sells_60 (fun v60 => ?_)
  refine s_iload hG dc12_sells_61 rfl ?_
  refine s_isub hG dc12_sells_63 ?_
  refine s_iast hG dc12_sells_64 (fun σ64 => ?_)
  exact s_vret hG dc12_sells_65 rfl (Nat.le_of_ble_eq_true rfl) (Nat.le_of_ble_eq_true rfl)
def fc12_sell (N : Nat) (a0 : Nat) (x1 : Int32) (x2 : Int32) (x3 : Int32) (σ : Me) : Option (Int32 × Me) :=
  (pI σ 12 0 (some a0) (0 : Int32)).bind fun σ2 =>
  (fc12_isIn N (Int32.toInt64 x3) (1 : Int64) (20 : Int64) σ2).bind fun p11 =>
  if p11.1 = 0 then
    some ((-1 : Int32), p11.2)
  else
    (qR p11.2 12 28 (some a0)).bind fun v19 =>
    (dr p11.2 (some a0) (.inl 12)).bind fun a =>
    (fc12_canSell N a v19 x1 x2 x3 p11.2).bind fun p25 =>
    if p25.1 = 0 then
      some ((-1 : Int32), p25.2)
    else
      (dr p25.2 (some a0) (.inl 12)).bind fun a =>
      (fc12_remember N a p25.2).bind fun p34 =>
      (qR p34.2 12 28 (some a0)).bind fun v38 =>
      (fc12_sells N v38 x1 x2 x3 p34.2).bind fun p44 =>
      (qR p44.2 12 28 (some a0)).bind fun v48 =>
      (ldI p44.2 v48 (((4 : Int32) * x1) + (3 : Int32))).bind fun v56 =>
      some (v56, p44.2)
set_option maxRecDepth 20000 in
set_option maxHeartbeats 2000000 in
theorem corc12_sell {Ω : Om} (N : Nat) (a0 : Nat) (x1 : Int32) (x2 : Int32) (x3 : Int32) (σ : Me) : Cor Ω tc12_sell 3 0 0 [vR (some a0), vI x1, vI x2, vI x3] σ ιI (fc12_sell N a0 x1 x2 x3 σ) := by
  refine Cor.of (by decide +kernel) (Nat.le_of_ble_eq_true rfl) (fun Γ hG => ?_)
  unfold fc12_sell
  show Sim Ω Γ 0 0 ιI 4 0 [(0, vR (some a0)), (1, vI x1), (2, vI x2), (3, vI x3)] [] σ 0 0 _
  refine s_aload_n hG dc12_sell_0 rfl ?_
  refine s_iconst (v := 0) hG dc12_sell_1 (by decide) ?_
  refine s_putI (fin := false) hG kFc12_100 rfl (fun h => by cases h) rfl (fun _ => rfl) (fun _ => rfl) dc12_sell_2 (fun σ2 => ?_)
  refine s_iload_n hG dc12_sell_5 rfl ?_
  refine s_i2l hG dc12_sell_6 ?_
  refine s_lconst (v := 1) hG dc12_sell_7 (by decide) ?_
  refine s_ldc2 hG dc12_sell_8 kJc12_369 ?_
  refine s_callSi hG kMc12_221 (corc12_isIn N _ _ _ _) rfl (by first | decide | omega) dc12_sell_11 rfl rfl (Nat.le_of_ble_eq_true rfl) ⟨Nat.le_of_ble_eq_true rfl, Nat.le_of_ble_eq_true rfl⟩ (fun p11 => ?_)
  refine s_if_eq hG 31 dc12_sell_14 (by decide) ?_ ?_
  · refine s_iconst (v := -1) hG dc12_sell_31 (by decide) ?_
    exact s_iret hG dc12_sell_32 rfl (Nat.le_of_ble_eq_true rfl) (Nat.le_of_ble_eq_true rfl)
  · refine s_aload_n hG dc12_sell_17 rfl ?_
    refine s_aload_n hG dc12_sell_18 rfl ?_
    refine s_getR hG kFc12_55 rfl dc12_sell_19 (fun v19 => ?_)
    refine s_iload_n hG dc12_sell_22 rfl ?_
    refine s_iload_n hG dc12_sell_23 rfl ?_
    refine s_iload_n hG dc12_sell_24 rfl ?_
    refine s_callVi hG kMc12_371 (fun a => corc12_canSell N a _ _ _ _ _) ⟨by decide, rfl⟩ rfl (by first | decide | omega) dc12_sell_25 rfl rfl (Nat.le_of_ble_eq_true rfl) ⟨Nat.le_of_ble_eq_true rfl, Nat.le_of_ble_eq_true rfl⟩ (fun p25 => ?_)
    refine s_if_ne hG 33 dc12_sell_28 (by decide) ?_ ?_
    · refine s_aload_n hG dc12_sell_33 rfl ?_
      refine s_callVv hG kMc12_366 (fun a => corc12_remember N a _) ⟨by decide, rfl⟩ rfl (by first | decide | omega) dc12_sell_34 rfl rfl (Nat.le_of_ble_eq_true rfl) ⟨Nat.le_of_ble_eq_true rfl, Nat.le_of_ble_eq_true rfl⟩ (fun p34 => ?_)
      refine s_aload_n hG dc12_sell_37 rfl ?_
      refine s_getR hG kFc12_55 rfl dc12_sell_38 (fun v38 => ?_)
      refine s_iload_n hG dc12_sell_41 rfl ?_
      refine s_iload_n hG dc12_sell_42 rfl ?_
      refine s_iload_n hG dc12_sell_43 rfl ?_
      refine s_callSv hG kMc12_375 (corc12_sells N _ _ _ _ _) rfl (by first | decide | omega) dc12_sell_44 rfl rfl (Nat.le_of_ble_eq_true rfl) ⟨Nat.le_of_ble_eq_true rfl, Nat.le_of_ble_eq_true rfl⟩ (fun p44 => ?_)
      refine s_aload_n hG dc12_sell_47 rfl ?_
      refine s_getR hG kFc12_55 rfl dc12_sell_48 (fun v48 => ?_)
      refine s_iconst (v := 4) hG dc12_sell_51 (by decide) ?_
      refine s_iload_n hG dc12_sell_52 rfl ?_
      refine s_imul hG dc12_sell_53 ?_
      refine s_iconst (v := 3) hG dc12_sell_54 (by decide) ?_
      refine s_iadd hG dc12_sell_55 ?_
      refine s_iald hG dc12_sell_56 (fun v56 => ?_)
      exact s_iret hG dc12_sell_57 rfl (Nat.le_of_ble_eq_true rfl) (Nat.le_of_ble_eq_true rfl)
    · refine s_iconst (v := -1) hG dc12_sell_31 (by decide) ?_
      exact s_iret hG dc12_sell_32 rfl (Nat.le_of_ble_eq_true rfl) (Nat.le_of_ble_eq_true rfl)
def fc12_forgives_14 (N : Nat) : Nat → Option Nat → Option Nat → Int32 → Me → Option (Unit × Me)
  | 0, _, _, _, _ => none
  | n + 1, l0, l1, l4, σ =>
    (qI σ 12 24 l0).bind fun v17 =>
    if v17 ≤ l4 then
      some ((), σ)
    else
      (ldI σ l1 (((4 : Int32) * l4) + (2 : Int32))).bind fun v39 =>
      (fMt_min N (30 : Int32) (v39 + (1 : Int32)) σ).bind fun p42 =>
      (stI p42.2 l1 (((4 : Int32) * l4) + (2 : Int32)) p42.1).bind fun σ45 =>
      (fc12_forgives_14 N n) l0 l1 (l4 + (1 : Int32)) σ45
def fc12_forgives (N : Nat) (a0 : Nat) (x1 : Option Nat) (x2 : Int32) (x3 : Int32) (σ : Me) : Option (Unit × Me) :=
  (ldI σ x1 (((4 : Int32) * x2) + (0 : Int32))).bind fun v7 =>
  (stI σ x1 (((4 : Int32) * x2) + (0 : Int32)) (v7 - x3)).bind fun σ10 =>
  fc12_forgives_14 N N (some a0) x1 (0 : Int32) σ10
set_option maxRecDepth 20000 in
set_option maxHeartbeats 2000000 in
theorem pc12_forgives_14 {Ω : Om} {Γ : Ga} {N : Nat} (hG : Good Ω Γ tc12_forgives 2 0 0) : ∀ (n : Nat) (l0 : Option Nat) (l1 : Option Nat) (l4 : Int32) (σ : Me), Sim Ω Γ 0 0 ιV 5 14 [(0, vR l0), (1, vR l1), (4, vI l4)] [] σ 0 0 (fc12_forgives_14 N n l0 l1 l4 σ) := by
  intro n
  induction n with
  | zero => intros; exact s_none
  | succ n ih =>
    intro l0 l1 l4 σ
    unfold fc12_forgives_14
    refine s_iload hG dc12_forgives_14 rfl ?_
    refine s_aload_n hG dc12_forgives_16 rfl ?_
    refine s_getI hG kFc12_290 rfl dc12_forgives_17 (fun v17 => ?_)
    refine s_icmp_ge hG 52 dc12_forgives_20 (by decide) ?_ ?_
    · exact s_vret hG dc12_forgives_52 rfl (Nat.le_of_ble_eq_true rfl) (Nat.le_of_ble_eq_true rfl)
    · refine s_aload_n hG dc12_forgives_23 rfl ?_
      refine s_iconst (v := 4) hG dc12_forgives_24 (by decide) ?_
      refine s_iload hG dc12_forgives_25 rfl ?_
      refine s_imul hG dc12_forgives_27 ?_
      refine s_iconst (v := 2) hG dc12_forgives_28 (by decide) ?_
      refine s_iadd hG dc12_forgives_29 ?_
      refine s_bipush (v := 30) hG dc12_forgives_30 (by decide) ?_
      refine s_aload_n hG dc12_forgives_32 rfl ?_
      refine s_iconst (v := 4) hG dc12_forgives_33 (by decide) ?_
      refine s_iload hG dc12_forgives_34 rfl ?_
      refine s_imul hG dc12_forgives_36 ?_
      refine s_iconst (v := 2) hG dc12_forgives_37 (by decide) ?_
      refine s_iadd hG dc12_forgives_38 ?_
      refine s_iald hG dc12_forgives_39 (fun v39 => ?_)
      refine s_iconst (v := 1) hG dc12_forgives_40 (by decide) ?_
      refine s_iadd hG dc12_forgives_41 ?_
      refine s_callSi hG kMc12_324 (corMt_min N _ _ _) rfl (by first | decide | omega) dc12_forgives_42 rfl rfl (Nat.le_of_ble_eq_true rfl) ⟨Nat.le_of_ble_eq_true rfl, Nat.le_of_ble_eq_true rfl⟩ (fun p42 => ?_)
      refine s_iast hG dc12_forgives_45 (fun σ45 => ?_)
      refine s_iinc (v := 1) hG dc12_forgives_46 rfl (by decide) (by decide) ?_
      refine s_goto hG 14 dc12_forgives_49 (by decide) ?_
      exact s_lv (lc rfl (lc rfl (lc rfl ln))) (ih _ _ _ _)
set_option maxRecDepth 20000 in
set_option maxHeartbeats 2000000 in
theorem corc12_forgives {Ω : Om} (N : Nat) (a0 : Nat) (x1 : Option Nat) (x2 : Int32) (x3 : Int32) (σ : Me) : Cor Ω tc12_forgives 2 0 0 [vR (some a0), vR x1, vI x2, vI x3] σ ιV (fc12_forgives N a0 x1 x2 x3 σ) := by
  refine Cor.of (by decide +kernel) (Nat.le_of_ble_eq_true rfl) (fun Γ hG => ?_)
  unfold fc12_forgives
  show Sim Ω Γ 0 0 ιV 5 0 [(0, vR (some a0)), (1, vR x1), (2, vI x2), (3, vI x3)] [] σ 0 0 _
  refine s_aload_n hG dc12_forgives_0 rfl ?_
  refine s_iconst (v := 4) hG dc12_forgives_1 (by decide) ?_
  refine s_iload_n hG dc12_forgives_2 rfl ?_
  refine s_imul hG dc12_forgives_3 ?_
  refine s_iconst (v := 0) hG dc12_forgives_4 (by decide) ?_
  refine s_iadd hG dc12_forgives_5 ?_
  refine s_dup2 hG dc12_forgives_6 rfl rfl ?_
  refine s_iald hG dc12_forgives_7 (fun v7 => ?_)
  refine s_iload_n hG dc12_forgives_8 rfl ?_
  refine s_isub hG dc12_forgives_9 ?_
  refine s_iast hG dc12_forgives_10 (fun σ10 => ?_)
  refine s_iconst (v := 0) hG dc12_forgives_11 (by decide) ?_
  refine s_istore hG dc12_forgives_12 (by decide) ?_
  exact s_lv (lc rfl (lc rfl (lc rfl ln))) (pc12_forgives_14 hG _ _ _ _ _)
def fc12_canForgive (N : Nat) (a0 : Nat) (x1 : Option Nat) (x2 : Int32) (x3 : Int32) (σ : Me) : Option (Int32 × Me) :=
  (dr σ (some a0) (.inl 12)).bind fun a =>
  (fc12_isField N a x2 σ).bind fun p2 =>
  if p2.1 = 0 then
    retZ (0 : Int32) p2.2
  else
    (fc12_isIn N (Int32.toInt64 x3) (1 : Int64) (20 : Int64) p2.2).bind fun p14 =>
    if p14.1 = 0 then
      retZ (0 : Int32) p14.2
    else
      (ldI p14.2 x1 (((4 : Int32) * x2) + (0 : Int32))).bind fun v27 =>
      if v27 < x3 then
        retZ (0 : Int32) p14.2
      else
        retZ (1 : Int32) p14.2
set_option maxRecDepth 20000 in
set_option maxHeartbeats 2000000 in
theorem corc12_canForgive {Ω : Om} (N : Nat) (a0 : Nat) (x1 : Option Nat) (x2 : Int32) (x3 : Int32) (σ : Me) : Cor Ω tc12_canForgive 2 0 0 [vR (some a0), vR x1, vI x2, vI x3] σ ιI (fc12_canForgive N a0 x1 x2 x3 σ) := by
  refine Cor.of (by decide +kernel) (Nat.le_of_ble_eq_true rfl) (fun Γ hG => ?_)
  unfold fc12_canForgive
  show Sim Ω Γ 0 0 ιI 4 0 [(0, vR (some a0)), (1, vR x1), (2, vI x2), (3, vI x3)] [] σ 0 0 _
  refine s_aload_n hG dc12_canForgive_0 rfl ?_
  refine s_iload_n hG dc12_canForgive_1 rfl ?_
  refine s_callVi hG kMc12_353 (fun a => corc12_isField N a _ _) ⟨by decide, rfl⟩ rfl (by first | decide | omega) dc12_canForgive_2 rfl rfl (Nat.le_of_ble_eq_true rfl) ⟨Nat.le_of_ble_eq_true rfl, Nat.le_of_ble_eq_true rfl⟩ (fun p2 => ?_)
  refine s_if_eq hG 35 dc12_canForgive_5 (by decide) ?_ ?_
  · refine s_iconst (v := 0) hG dc12_canForgive_35 (by decide) ?_
    exact s_zret hG dc12_canForgive_36 rfl (Nat.le_of_ble_eq_true rfl) (Nat.le_of_ble_eq_true rfl)
  · refine s_iload_n hG dc12_canForgive_8 rfl ?_
    refine s_i2l hG dc12_canForgive_9 ?_
    refine s_lconst (v := 1) hG dc12_canForgive_10 (by decide) ?_
    refine s_ldc2 hG dc12_canForgive_11 kJc12_369 ?_
    refine s_callSi hG kMc12_221 (corc12_isIn N _ _ _ _) rfl (by first | decide | omega) dc12_canForgive_14 rfl rfl (Nat.le_of_ble_eq_true rfl) ⟨Nat.le_of_ble_eq_true rfl, Nat.le_of_ble_eq_true rfl⟩ (fun p14 => ?_)
    refine s_if_eq hG 35 dc12_canForgive_17 (by decide) ?_ ?_
    · refine s_iconst (v := 0) hG dc12_canForgive_35 (by decide) ?_
      exact s_zret hG dc12_canForgive_36 rfl (Nat.le_of_ble_eq_true rfl) (Nat.le_of_ble_eq_true rfl)
    · refine s_iload_n hG dc12_canForgive_20 rfl ?_
      refine s_aload_n hG dc12_canForgive_21 rfl ?_
      refine s_iconst (v := 4) hG dc12_canForgive_22 (by decide) ?_
      refine s_iload_n hG dc12_canForgive_23 rfl ?_
      refine s_imul hG dc12_canForgive_24 ?_
      refine s_iconst (v := 0) hG dc12_canForgive_25 (by decide) ?_
      refine s_iadd hG dc12_canForgive_26 ?_
      refine s_iald hG dc12_canForgive_27 (fun v27 => ?_)
      refine s_icmp_gt hG 35 dc12_canForgive_28 (by decide) ?_ ?_
      · refine s_iconst (v := 0) hG dc12_canForgive_35 (by decide) ?_
        exact s_zret hG dc12_canForgive_36 rfl (Nat.le_of_ble_eq_true rfl) (Nat.le_of_ble_eq_true rfl)
      · refine s_iconst (v := 1) hG dc12_canForgive_31 (by decide) ?_
        refine s_goto hG 36 dc12_canForgive_32 (by decide) ?_
        exact s_zret hG dc12_canForgive_36 rfl (Nat.le_of_ble_eq_true rfl) (Nat.le_of_ble_eq_true rfl)
def fc12_forgive (N : Nat) (a0 : Nat) (x1 : Int32) (x2 : Int32) (σ : Me) : Option (Int32 × Me) :=
  (pI σ 12 0 (some a0) (0 : Int32)).bind fun σ2 =>
  (qR σ2 12 28 (some a0)).bind fun v7 =>
  (dr σ2 (some a0) (.inl 12)).bind fun a =>
  (fc12_canForgive N a v7 x1 x2 σ2).bind fun p12 =>
  if p12.1 = 0 then
    some ((-1 : Int32), p12.2)
  else
    (dr p12.2 (some a0) (.inl 12)).bind fun a =>
    (fc12_remember N a p12.2).bind fun p21 =>
    (qR p21.2 12 28 (some a0)).bind fun v26 =>
    (dr p21.2 (some a0) (.inl 12)).bind fun a =>
    (fc12_forgives N a v26 x1 x2 p21.2).bind fun p31 =>
    (qR p31.2 12 28 (some a0)).bind fun v35 =>
    (ldI p31.2 v35 (((4 : Int32) * x1) + (0 : Int32))).bind fun v43 =>
    some (v43, p31.2)
set_option maxRecDepth 20000 in
set_option maxHeartbeats 2000000 in
theorem corc12_forgive {Ω : Om} (N : Nat) (a0 : Nat) (x1 : Int32) (x2 : Int32) (σ : Me) : Cor Ω tc12_forgive 3 0 0 [vR (some a0), vI x1, vI x2] σ ιI (fc12_forgive N a0 x1 x2 σ) := by
  refine Cor.of (by decide +kernel) (Nat.le_of_ble_eq_true rfl) (fun Γ hG => ?_)
  unfold fc12_forgive
  show Sim Ω Γ 0 0 ιI 3 0 [(0, vR (some a0)), (1, vI x1), (2, vI x2)] [] σ 0 0 _
  refine s_aload_n hG dc12_forgive_0 rfl ?_
  refine s_iconst (v := 0) hG dc12_forgive_1 (by decide) ?_
  refine s_putI (fin := false) hG kFc12_100 rfl (fun h => by cases h) rfl (fun _ => rfl) (fun _ => rfl) dc12_forgive_2 (fun σ2 => ?_)
  refine s_aload_n hG dc12_forgive_5 rfl ?_
  refine s_aload_n hG dc12_forgive_6 rfl ?_
  refine s_getR hG kFc12_55 rfl dc12_forgive_7 (fun v7 => ?_)
  refine s_iload_n hG dc12_forgive_10 rfl ?_
  refine s_iload_n hG dc12_forgive_11 rfl ?_
  refine s_callVi hG kMc12_379 (fun a => corc12_canForgive N a _ _ _ _) ⟨by decide, rfl⟩ rfl (by first | decide | omega) dc12_forgive_12 rfl rfl (Nat.le_of_ble_eq_true rfl) ⟨Nat.le_of_ble_eq_true rfl, Nat.le_of_ble_eq_true rfl⟩ (fun p12 => ?_)
  refine s_if_ne hG 20 dc12_forgive_15 (by decide) ?_ ?_
  · refine s_aload_n hG dc12_forgive_20 rfl ?_
    refine s_callVv hG kMc12_366 (fun a => corc12_remember N a _) ⟨by decide, rfl⟩ rfl (by first | decide | omega) dc12_forgive_21 rfl rfl (Nat.le_of_ble_eq_true rfl) ⟨Nat.le_of_ble_eq_true rfl, Nat.le_of_ble_eq_true rfl⟩ (fun p21 => ?_)
    refine s_aload_n hG dc12_forgive_24 rfl ?_
    refine s_aload_n hG dc12_forgive_25 rfl ?_
    refine s_getR hG kFc12_55 rfl dc12_forgive_26 (fun v26 => ?_)
    refine s_iload_n hG dc12_forgive_29 rfl ?_
    refine s_iload_n hG dc12_forgive_30 rfl ?_
    refine s_callVv hG kMc12_383 (fun a => corc12_forgives N a _ _ _ _) ⟨by decide, rfl⟩ rfl (by first | decide | omega) dc12_forgive_31 rfl rfl (Nat.le_of_ble_eq_true rfl) ⟨Nat.le_of_ble_eq_true rfl, Nat.le_of_ble_eq_true rfl⟩ (fun p31 => ?_)
    refine s_aload_n hG dc12_forgive_34 rfl ?_
    refine s_getR hG kFc12_55 rfl dc12_forgive_35 (fun v35 => ?_)
    refine s_iconst (v := 4) hG dc12_forgive_38 (by decide) ?_
    refine s_iload_n hG dc12_forgive_39 rfl ?_
    refine s_imul hG dc12_forgive_40 ?_
    refine s_iconst (v := 0) hG dc12_forgive_41 (by decide) ?_
    refine s_iadd hG dc12_forgive_42 ?_
    refine s_iald hG dc12_forgive_43 (fun v43 => ?_)
    exact s_iret hG dc12_forgive_44 rfl (Nat.le_of_ble_eq_true rfl) (Nat.le_of_ble_eq_true rfl)
  · refine s_iconst (v := -1) hG dc12_forgive_18 (by decide) ?_
    exact s_iret hG dc12_forgive_19 rfl (Nat.le_of_ble_eq_true rfl) (Nat.le_of_ble_eq_true rfl)
def fc12_canHedge_58 (N : Nat)  (σ : Me) : Option (Int32 × Me) :=
  retZ (1 : Int32) σ
def fc12_canHedge (N : Nat) (a0 : Nat) (x1 : Option Nat) (x2 : Int32) (σ : Me) : Option (Int32 × Me) :=
  (dr σ (some a0) (.inl 12)).bind fun a =>
  (fc12_isField N a x2 σ).bind fun p2 =>
  if p2.1 = 0 then
    retZ (0 : Int32) p2.2
  else
    (qI p2.2 12 24 (some a0)).bind fun v12 =>
    if (x2 + (1 : Int32)) = v12 then
      retZ (0 : Int32) p2.2
    else
      (ldI p2.2 x1 (((4 : Int32) * x2) + (0 : Int32))).bind fun v26 =>
      (ldI p2.2 x1 ((((4 : Int32) * x2) + (4 : Int32)) + (0 : Int32))).bind fun v35 =>
      if v26 = v35 then
        (ldI p2.2 x1 (((4 : Int32) * x2) + (1 : Int32))).bind fun v45 =>
        (ldI p2.2 x1 ((((4 : Int32) * x2) + (4 : Int32)) + (1 : Int32))).bind fun v54 =>
        if v45 = v54 then
          retZ (0 : Int32) p2.2
        else
          fc12_canHedge_58 N  p2.2
      else
        fc12_canHedge_58 N  p2.2
set_option maxRecDepth 20000 in
set_option maxHeartbeats 2000000 in
theorem pc12_canHedge_58 {Ω : Om} {Γ : Ga} {N : Nat} (hG : Good Ω Γ tc12_canHedge 2 0 0)  (σ : Me) : Sim Ω Γ 0 0 ιI 3 58 [] [] σ 0 0 (fc12_canHedge_58 N  σ) := by
  unfold fc12_canHedge_58
  refine s_iconst (v := 1) hG dc12_canHedge_58 (by decide) ?_
  refine s_goto hG 63 dc12_canHedge_59 (by decide) ?_
  exact s_zret hG dc12_canHedge_63 rfl (Nat.le_of_ble_eq_true rfl) (Nat.le_of_ble_eq_true rfl)
set_option maxRecDepth 20000 in
set_option maxHeartbeats 2000000 in
theorem corc12_canHedge {Ω : Om} (N : Nat) (a0 : Nat) (x1 : Option Nat) (x2 : Int32) (σ : Me) : Cor Ω tc12_canHedge 2 0 0 [vR (some a0), vR x1, vI x2] σ ιI (fc12_canHedge N a0 x1 x2 σ) := by
  refine Cor.of (by decide +kernel) (Nat.le_of_ble_eq_true rfl) (fun Γ hG => ?_)
  unfold fc12_canHedge
  show Sim Ω Γ 0 0 ιI 3 0 [(0, vR (some a0)), (1, vR x1), (2, vI x2)] [] σ 0 0 _
  refine s_aload_n hG dc12_canHedge_0 rfl ?_
  refine s_iload_n hG dc12_canHedge_1 rfl ?_
  refine s_callVi hG kMc12_353 (fun a => corc12_isField N a _ _) ⟨by decide, rfl⟩ rfl (by first | decide | omega) dc12_canHedge_2 rfl rfl (Nat.le_of_ble_eq_true rfl) ⟨Nat.le_of_ble_eq_true rfl, Nat.le_of_ble_eq_true rfl⟩ (fun p2 => ?_)
  refine s_if_eq hG 18 dc12_canHedge_5 (by decide) ?_ ?_
  · refine s_iconst (v := 0) hG dc12_canHedge_18 (by decide) ?_
    exact s_zret hG dc12_canHedge_19 rfl (Nat.le_of_ble_eq_true rfl) (Nat.le_of_ble_eq_true rfl)
  · refine s_iload_n hG dc12_canHedge_8 rfl ?_
    refine s_iconst (v := 1) hG dc12_canHedge_9 (by decide) ?_
    refine s_iadd hG dc12_canHedge_10 ?_
    refine s_aload_n hG dc12_canHedge_11 rfl ?_
    refine s_getI hG kFc12_290 rfl dc12_canHedge_12 (fun v12 => ?_)
    refine s_icmp_ne hG 20 dc12_canHedge_15 (by decide) ?_ ?_
    · refine s_aload_n hG dc12_canHedge_20 rfl ?_
      refine s_iconst (v := 4) hG dc12_canHedge_21 (by decide) ?_
      refine s_iload_n hG dc12_canHedge_22 rfl ?_
      refine s_imul hG dc12_canHedge_23 ?_
      refine s_iconst (v := 0) hG dc12_canHedge_24 (by decide) ?_
      refine s_iadd hG dc12_canHedge_25 ?_
      refine s_iald hG dc12_canHedge_26 (fun v26 => ?_)
      refine s_aload_n hG dc12_canHedge_27 rfl ?_
      refine s_iconst (v := 4) hG dc12_canHedge_28 (by decide) ?_
      refine s_iload_n hG dc12_canHedge_29 rfl ?_
      refine s_imul hG dc12_canHedge_30 ?_
      refine s_iconst (v := 4) hG dc12_canHedge_31 (by decide) ?_
      refine s_iadd hG dc12_canHedge_32 ?_
      refine s_iconst (v := 0) hG dc12_canHedge_33 (by decide) ?_
      refine s_iadd hG dc12_canHedge_34 ?_
      refine s_iald hG dc12_canHedge_35 (fun v35 => ?_)
      refine s_icmp_ne hG 58 dc12_canHedge_36 (by decide) ?_ ?_
      · exact s_lv ln (pc12_canHedge_58 hG _)
      · refine s_aload_n hG dc12_canHedge_39 rfl ?_
        refine s_iconst (v := 4) hG dc12_canHedge_40 (by decide) ?_
        refine s_iload_n hG dc12_canHedge_41 rfl ?_
        refine s_imul hG dc12_canHedge_42 ?_
        refine s_iconst (v := 1) hG dc12_canHedge_43 (by decide) ?_
        refine s_iadd hG dc12_canHedge_44 ?_
        refine s_iald hG dc12_canHedge_45 (fun v45 => ?_)
        refine s_aload_n hG dc12_canHedge_46 rfl ?_
        refine s_iconst (v := 4) hG dc12_canHedge_47 (by decide) ?_
        refine s_iload_n hG dc12_canHedge_48 rfl ?_
        refine s_imul hG dc12_canHedge_49 ?_
        refine s_iconst (v := 4) hG dc12_canHedge_50 (by decide) ?_
        refine s_iadd hG dc12_canHedge_51 ?_
        refine s_iconst (v := 1) hG dc12_canHedge_52 (by decide) ?_
        refine s_iadd hG dc12_canHedge_53 ?_
        refine s_iald hG dc12_canHedge_54 (fun v54 => ?_)
        refine s_icmp_eq hG 62 dc12_canHedge_55 (by decide) ?_ ?_
        · refine s_iconst (v := 0) hG dc12_canHedge_62 (by decide) ?_
          exact s_zret hG dc12_canHedge_63 rfl (Nat.le_of_ble_eq_true rfl) (Nat.le_of_ble_eq_true rfl)
        · exact s_lv ln (pc12_canHedge_58 hG _)
    · refine s_iconst (v := 0) hG dc12_canHedge_18 (by decide) ?_
      exact s_zret hG dc12_canHedge_19 rfl (Nat.le_of_ble_eq_true rfl) (Nat.le_of_ble_eq_true rfl)
def fc12_hedges_2 (N : Nat) : Nat → Option Nat → Int32 → Int32 → Me → Option (Unit × Me)
  | 0, _, _, _, _ => none
  | n + 1, l0, l1, l2, σ =>
    if (2 : Int32) ≤ l2 then
      some ((), σ)
    else
      (ldI σ l0 (((4 : Int32) * l1) + l2)).bind fun v13 =>
      (ldI σ l0 ((((4 : Int32) * l1) + (4 : Int32)) + l2)).bind fun v29 =>
      (stI σ l0 (((4 : Int32) * l1) + l2) v29).bind fun σ30 =>
      (stI σ30 l0 ((((4 : Int32) * l1) + (4 : Int32)) + l2) v13).bind fun σ40 =>
      (fc12_hedges_2 N n) l0 l1 (l2 + (1 : Int32)) σ40
def fc12_hedges (N : Nat) (x0 : Option Nat) (x1 : Int32) (σ : Me) : Option (Unit × Me) :=
  fc12_hedges_2 N N x0 x1 (0 : Int32) σ
set_option maxRecDepth 20000 in
set_option maxHeartbeats 2000000 in
theorem pc12_hedges_2 {Ω : Om} {Γ : Ga} {N : Nat} (hG : Good Ω Γ tc12_hedges 1 0 0) : ∀ (n : Nat) (l0 : Option Nat) (l1 : Int32) (l2 : Int32) (σ : Me), Sim Ω Γ 0 0 ιV 4 2 [(0, vR l0), (1, vI l1), (2, vI l2)] [] σ 0 0 (fc12_hedges_2 N n l0 l1 l2 σ) := by
  intro n
  induction n with
  | zero => intros; exact s_none
  | succ n ih =>
    intro l0 l1 l2 σ
    unfold fc12_hedges_2
    refine s_iload_n hG dc12_hedges_2 rfl ?_
    refine s_iconst (v := 2) hG dc12_hedges_3 (by decide) ?_
    refine s_icmp_ge hG 47 dc12_hedges_4 (by decide) ?_ ?_
    · exact s_vret hG dc12_hedges_47 rfl (Nat.le_of_ble_eq_true rfl) (Nat.le_of_ble_eq_true rfl)
    · refine s_aload_n hG dc12_hedges_7 rfl ?_
      refine s_iconst (v := 4) hG dc12_hedges_8 (by decide) ?_
      refine s_iload_n hG dc12_hedges_9 rfl ?_
      refine s_imul hG dc12_hedges_10 ?_
      refine s_iload_n hG dc12_hedges_11 rfl ?_
      refine s_iadd hG dc12_hedges_12 ?_
      refine s_iald hG dc12_hedges_13 (fun v13 => ?_)
      refine s_istore_n hG dc12_hedges_14 (by decide) ?_
      refine s_aload_n hG dc12_hedges_15 rfl ?_
      refine s_iconst (v := 4) hG dc12_hedges_16 (by decide) ?_
      refine s_iload_n hG dc12_hedges_17 rfl ?_
      refine s_imul hG dc12_hedges_18 ?_
      refine s_iload_n hG dc12_hedges_19 rfl ?_
      refine s_iadd hG dc12_hedges_20 ?_
      refine s_aload_n hG dc12_hedges_21 rfl ?_
      refine s_iconst (v := 4) hG dc12_hedges_22 (by decide) ?_
      refine s_iload_n hG dc12_hedges_23 rfl ?_
      refine s_imul hG dc12_hedges_24 ?_
      refine s_iconst (v := 4) hG dc12_hedges_25 (by decide) ?_
      refine s_iadd hG dc12_hedges_26 ?_
      refine s_iload_n hG dc12_hedges_27 rfl ?_
      refine s_iadd hG dc12_hedges_28 ?_
      refine s_iald hG dc12_hedges_29 (fun v29 => ?_)
      refine s_iast hG dc12_hedges_30 (fun σ30 => ?_)
      refine s_aload_n hG dc12_hedges_31 rfl ?_
      refine s_iconst (v := 4) hG dc12_hedges_32 (by decide) ?_
      refine s_iload_n hG dc12_hedges_33 rfl ?_
      refine s_imul hG dc12_hedges_34 ?_
      refine s_iconst (v := 4) hG dc12_hedges_35 (by decide) ?_
      refine s_iadd hG dc12_hedges_36 ?_
      refine s_iload_n hG dc12_hedges_37 rfl ?_
      refine s_iadd hG dc12_hedges_38 ?_
      refine s_iload_n hG dc12_hedges_39 rfl ?_
      refine s_iast hG dc12_hedges_40 (fun σ40 => ?_)
      refine s_iinc (v := 1) hG dc12_hedges_41 rfl (by decide) (by decide) ?_
      refine s_goto hG 2 dc12_hedges_44 (by decide) ?_
      exact s_lv (lc rfl (lc rfl (lc rfl ln))) (ih _ _ _ _)
set_option maxRecDepth 20000 in
set_option maxHeartbeats 2000000 in
theorem corc12_hedges {Ω : Om} (N : Nat) (x0 : Option Nat) (x1 : Int32) (σ : Me) : Cor Ω tc12_hedges 1 0 0 [vR x0, vI x1] σ ιV (fc12_hedges N x0 x1 σ) := by
  refine Cor.of (by decide +kernel) (Nat.le_of_ble_eq_true rfl) (fun Γ hG => ?_)
  unfold fc12_hedges
  show Sim Ω Γ 0 0 ιV 4 0 [(0, vR x0), (1, vI x1)] [] σ 0 0 _
  refine s_iconst (v := 0) hG dc12_hedges_0 (by decide) ?_
  refine s_istore_n hG dc12_hedges_1 (by decide) ?_
  exact s_lv (lc rfl (lc rfl (lc rfl ln))) (pc12_hedges_2 hG _ _ _ _ _)
def fc12_hedge (N : Nat) (a0 : Nat) (x1 : Int32) (σ : Me) : Option (Int32 × Me) :=
  (pI σ 12 0 (some a0) (0 : Int32)).bind fun σ2 =>
  (qR σ2 12 28 (some a0)).bind fun v7 =>
  (dr σ2 (some a0) (.inl 12)).bind fun a =>
  (fc12_canHedge N a v7 x1 σ2).bind fun p11 =>
  if p11.1 = 0 then
    some ((-1 : Int32), p11.2)
  else
    (dr p11.2 (some a0) (.inl 12)).bind fun a =>
    (fc12_remember N a p11.2).bind fun p20 =>
    (qR p20.2 12 28 (some a0)).bind fun v24 =>
    (fc12_hedges N v24 x1 p20.2).bind fun p28 =>
    (qR p28.2 12 28 (some a0)).bind fun v32 =>
    (ldI p28.2 v32 (((4 : Int32) * x1) + (0 : Int32))).bind fun v40 =>
    some (v40, p28.2)
set_option maxRecDepth 20000 in
set_option maxHeartbeats 2000000 in
theorem corc12_hedge {Ω : Om} (N : Nat) (a0 : Nat) (x1 : Int32) (σ : Me) : Cor Ω tc12_hedge 3 0 0 [vR (some a0), vI x1] σ ιI (fc12_hedge N a0 x1 σ) := by
  refine Cor.of (by decide +kernel) (Nat.le_of_ble_eq_true rfl) (fun Γ hG => ?_)
  unfold fc12_hedge
  show Sim Ω Γ 0 0 ιI 2 0 [(0, vR (some a0)), (1, vI x1)] [] σ 0 0 _
  refine s_aload_n hG dc12_hedge_0 rfl ?_
  refine s_iconst (v := 0) hG dc12_hedge_1 (by decide) ?_
  refine s_putI (fin := false) hG kFc12_100 rfl (fun h => by cases h) rfl (fun _ => rfl) (fun _ => rfl) dc12_hedge_2 (fun σ2 => ?_)
  refine s_aload_n hG dc12_hedge_5 rfl ?_
  refine s_aload_n hG dc12_hedge_6 rfl ?_
  refine s_getR hG kFc12_55 rfl dc12_hedge_7 (fun v7 => ?_)
  refine s_iload_n hG dc12_hedge_10 rfl ?_
  refine s_callVi hG kMc12_387 (fun a => corc12_canHedge N a _ _ _) ⟨by decide, rfl⟩ rfl (by first | decide | omega) dc12_hedge_11 rfl rfl (Nat.le_of_ble_eq_true rfl) ⟨Nat.le_of_ble_eq_true rfl, Nat.le_of_ble_eq_true rfl⟩ (fun p11 => ?_)
  refine s_if_ne hG 19 dc12_hedge_14 (by decide) ?_ ?_
  · refine s_aload_n hG dc12_hedge_19 rfl ?_
    refine s_callVv hG kMc12_366 (fun a => corc12_remember N a _) ⟨by decide, rfl⟩ rfl (by first | decide | omega) dc12_hedge_20 rfl rfl (Nat.le_of_ble_eq_true rfl) ⟨Nat.le_of_ble_eq_true rfl, Nat.le_of_ble_eq_true rfl⟩ (fun p20 => ?_)
    refine s_aload_n hG dc12_hedge_23 rfl ?_
    refine s_getR hG kFc12_55 rfl dc12_hedge_24 (fun v24 => ?_)
    refine s_iload_n hG dc12_hedge_27 rfl ?_
    refine s_callSv hG kMc12_391 (corc12_hedges N _ _ _) rfl (by first | decide | omega) dc12_hedge_28 rfl rfl (Nat.le_of_ble_eq_true rfl) ⟨Nat.le_of_ble_eq_true rfl, Nat.le_of_ble_eq_true rfl⟩ (fun p28 => ?_)
    refine s_aload_n hG dc12_hedge_31 rfl ?_
    refine s_getR hG kFc12_55 rfl dc12_hedge_32 (fun v32 => ?_)
    refine s_iconst (v := 4) hG dc12_hedge_35 (by decide) ?_
    refine s_iload_n hG dc12_hedge_36 rfl ?_
    refine s_imul hG dc12_hedge_37 ?_
    refine s_iconst (v := 0) hG dc12_hedge_38 (by decide) ?_
    refine s_iadd hG dc12_hedge_39 ?_
    refine s_iald hG dc12_hedge_40 (fun v40 => ?_)
    exact s_iret hG dc12_hedge_41 rfl (Nat.le_of_ble_eq_true rfl) (Nat.le_of_ble_eq_true rfl)
  · refine s_iconst (v := -1) hG dc12_hedge_17 (by decide) ?_
    exact s_iret hG dc12_hedge_18 rfl (Nat.le_of_ble_eq_true rfl) (Nat.le_of_ble_eq_true rfl)
def fc12_canFill (N : Nat) (a0 : Nat) (x1 : Option Nat) (x2 : Int32) (σ : Me) : Option (Int32 × Me) :=
  (dr σ (some a0) (.inl 12)).bind fun a =>
  (fc12_isField N a x2 σ).bind fun p2 =>
  if p2.1 = 0 then
    retZ (0 : Int32) p2.2
  else
    (ldI p2.2 x1 (((4 : Int32) * x2) + (3 : Int32))).bind fun v14 =>
    if v14 < (3 : Int32) then
      retZ (0 : Int32) p2.2
    else
      (ldI p2.2 x1 (((4 : Int32) * x2) + (2 : Int32))).bind fun v25 =>
      if (30 : Int32) ≤ v25 then
        retZ (0 : Int32) p2.2
      else
        retZ (1 : Int32) p2.2
set_option maxRecDepth 20000 in
set_option maxHeartbeats 2000000 in
theorem corc12_canFill {Ω : Om} (N : Nat) (a0 : Nat) (x1 : Option Nat) (x2 : Int32) (σ : Me) : Cor Ω tc12_canFill 2 0 0 [vR (some a0), vR x1, vI x2] σ ιI (fc12_canFill N a0 x1 x2 σ) := by
  refine Cor.of (by decide +kernel) (Nat.le_of_ble_eq_true rfl) (fun Γ hG => ?_)
  unfold fc12_canFill
  show Sim Ω Γ 0 0 ιI 3 0 [(0, vR (some a0)), (1, vR x1), (2, vI x2)] [] σ 0 0 _
  refine s_aload_n hG dc12_canFill_0 rfl ?_
  refine s_iload_n hG dc12_canFill_1 rfl ?_
  refine s_callVi hG kMc12_353 (fun a => corc12_isField N a _ _) ⟨by decide, rfl⟩ rfl (by first | decide | omega) dc12_canFill_2 rfl rfl (Nat.le_of_ble_eq_true rfl) ⟨Nat.le_of_ble_eq_true rfl, Nat.le_of_ble_eq_true rfl⟩ (fun p2 => ?_)
  refine s_if_eq hG 35 dc12_canFill_5 (by decide) ?_ ?_
  · refine s_iconst (v := 0) hG dc12_canFill_35 (by decide) ?_
    exact s_zret hG dc12_canFill_36 rfl (Nat.le_of_ble_eq_true rfl) (Nat.le_of_ble_eq_true rfl)
  · refine s_aload_n hG dc12_canFill_8 rfl ?_
    refine s_iconst (v := 4) hG dc12_canFill_9 (by decide) ?_
    refine s_iload_n hG dc12_canFill_10 rfl ?_
    refine s_imul hG dc12_canFill_11 ?_
    refine s_iconst (v := 3) hG dc12_canFill_12 (by decide) ?_
    refine s_iadd hG dc12_canFill_13 ?_
    refine s_iald hG dc12_canFill_14 (fun v14 => ?_)
    refine s_iconst (v := 3) hG dc12_canFill_15 (by decide) ?_
    refine s_icmp_lt hG 35 dc12_canFill_16 (by decide) ?_ ?_
    · refine s_iconst (v := 0) hG dc12_canFill_35 (by decide) ?_
      exact s_zret hG dc12_canFill_36 rfl (Nat.le_of_ble_eq_true rfl) (Nat.le_of_ble_eq_true rfl)
    · refine s_aload_n hG dc12_canFill_19 rfl ?_
      refine s_iconst (v := 4) hG dc12_canFill_20 (by decide) ?_
      refine s_iload_n hG dc12_canFill_21 rfl ?_
      refine s_imul hG dc12_canFill_22 ?_
      refine s_iconst (v := 2) hG dc12_canFill_23 (by decide) ?_
      refine s_iadd hG dc12_canFill_24 ?_
      refine s_iald hG dc12_canFill_25 (fun v25 => ?_)
      refine s_bipush (v := 30) hG dc12_canFill_26 (by decide) ?_
      refine s_icmp_ge hG 35 dc12_canFill_28 (by decide) ?_ ?_
      · refine s_iconst (v := 0) hG dc12_canFill_35 (by decide) ?_
        exact s_zret hG dc12_canFill_36 rfl (Nat.le_of_ble_eq_true rfl) (Nat.le_of_ble_eq_true rfl)
      · refine s_iconst (v := 1) hG dc12_canFill_31 (by decide) ?_
        refine s_goto hG 36 dc12_canFill_32 (by decide) ?_
        exact s_zret hG dc12_canFill_36 rfl (Nat.le_of_ble_eq_true rfl) (Nat.le_of_ble_eq_true rfl)
def fc12_fills (N : Nat) (x0 : Option Nat) (x1 : Int32) (σ : Me) : Option (Unit × Me) :=
  (ldI σ x0 (((4 : Int32) * x1) + (3 : Int32))).bind fun v7 =>
  (stI σ x0 (((4 : Int32) * x1) + (3 : Int32)) (v7 - (3 : Int32))).bind fun σ10 =>
  (ldI σ10 x0 (((4 : Int32) * x1) + (2 : Int32))).bind fun v25 =>
  (fMt_min N (30 : Int32) (v25 + (2 : Int32)) σ10).bind fun p28 =>
  (stI p28.2 x0 (((4 : Int32) * x1) + (2 : Int32)) p28.1).bind fun σ31 =>
  some ((), σ31)
set_option maxRecDepth 20000 in
set_option maxHeartbeats 2000000 in
theorem corc12_fills {Ω : Om} (N : Nat) (x0 : Option Nat) (x1 : Int32) (σ : Me) : Cor Ω tc12_fills 2 0 0 [vR x0, vI x1] σ ιV (fc12_fills N x0 x1 σ) := by
  refine Cor.of (by decide +kernel) (Nat.le_of_ble_eq_true rfl) (fun Γ hG => ?_)
  unfold fc12_fills
  show Sim Ω Γ 0 0 ιV 2 0 [(0, vR x0), (1, vI x1)] [] σ 0 0 _
  refine s_aload_n hG dc12_fills_0 rfl ?_
  refine s_iconst (v := 4) hG dc12_fills_1 (by decide) ?_
  refine s_iload_n hG dc12_fills_2 rfl ?_
  refine s_imul hG dc12_fills_3 ?_
  refine s_iconst (v := 3) hG dc12_fills_4 (by decide) ?_
  refine s_iadd hG dc12_fills_5 ?_
  refine s_dup2 hG dc12_fills_6 rfl rfl ?_
  refine s_iald hG dc12_fills_7 (fun v7 => ?_)
  refine s_iconst (v := 3) hG dc12_fills_8 (by decide) ?_
  refine s_isub hG dc12_fills_9 ?_
  refine s_iast hG dc12_fills_10 (fun σ10 => ?_)
  refine s_aload_n hG dc12_fills_11 rfl ?_
  refine s_iconst (v := 4) hG dc12_fills_12 (by decide) ?_
  refine s_iload_n hG dc12_fills_13 rfl ?_
  refine s_imul hG dc12_fills_14 ?_
  refine s_iconst (v := 2) hG dc12_fills_15 (by decide) ?_
  refine s_iadd hG dc12_fills_16 ?_
  refine s_bipush (v := 30) hG dc12_fills_17 (by decide) ?_
  refine s_aload_n hG dc12_fills_19 rfl ?_
  refine s_iconst (v := 4) hG dc12_fills_20 (by decide) ?_
  refine s_iload_n hG dc12_fills_21 rfl ?_
  refine s_imul hG dc12_fills_22 ?_
  refine s_iconst (v := 2) hG dc12_fills_23 (by decide) ?_
  refine s_iadd hG dc12_fills_24 ?_
  refine s_iald hG dc12_fills_25 (fun v25 => ?_)
  refine s_iconst (v := 2) hG dc12_fills_26 (by decide) ?_
  refine s_iadd hG dc12_fills_27 ?_
  refine s_callSi hG kMc12_324 (corMt_min N _ _ _) rfl (by first | decide | omega) dc12_fills_28 rfl rfl (Nat.le_of_ble_eq_true rfl) ⟨Nat.le_of_ble_eq_true rfl, Nat.le_of_ble_eq_true rfl⟩ (fun p28 => ?_)
  refine s_iast hG dc12_fills_31 (fun σ31 => ?_)
  exact s_vret hG dc12_fills_32 rfl (Nat.le_of_ble_eq_true rfl) (Nat.le_of_ble_eq_true rfl)
