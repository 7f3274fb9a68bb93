abbrev Rc12_condition : Type := (Nat → Int32 → Int32 → Me → Option (Int32 × Me)) × (Nat → Int32 → Int32 → Me → Option (Int32 × Me)) × (Nat → Me → Option (Int32 × Me))
def fc12_condition_56 (N : Nat) (G : Rc12_condition) (K7 : Option Nat → Int32 → Me → Option (Int32 × Me)) (l0 : Option Nat) (s0 : Int32) (σ : Me) : Option (Int32 × Me) :=
  K7 l0 s0 σ
def fc12_condition_51 (N : Nat) (G : Rc12_condition) (K7 : Option Nat → Int32 → Me → Option (Int32 × Me)) (l0 : Option Nat) (σ : Me) : Option (Int32 × Me) :=
  fc12_condition_56 N G K7 l0 (1 : Int32) σ
def fc12_condition_7 (N : Nat) (G : Rc12_condition) : Nat → Option Nat → Int32 → Me → Option (Int32 × Me)
  | 0, _, _, _ => none
  | n + 1, l0, l3, σ =>
    (qI σ 12 11 l0).bind fun v8 =>
    if v8 = (-1 : Int32) then
      (dr σ l0 (.inl 12)).bind fun a =>
      (fc12_look N a σ).bind fun p16 =>
      if p16.1 = (124 : Int32) then
        (qI p16.2 12 10 l0).bind fun v26 =>
        (pI p16.2 12 10 l0 (v26 + (1 : Int32))).bind fun σ31 =>
        (dr σ31 l0 (.inl 12)).bind fun a =>
        (G.2.1 a (0 : Int32) (0 : Int32) σ31).bind fun p37 =>
        if l3 = 0 then
          if p37.1 = 0 then
            fc12_condition_56 N G (fc12_condition_7 N G n) l0 (0 : Int32) p37.2
          else
            fc12_condition_51 N G (fc12_condition_7 N G n) l0 p37.2
        else
          fc12_condition_51 N G (fc12_condition_7 N G n) l0 p37.2
      else
        retZ l3 p16.2
    else
      retZ l3 σ
def bc12_condition (N : Nat) (G : Rc12_condition) (a0 : Nat) (x1 : Int32) (x2 : Int32) (σ : Me) : Option (Int32 × Me) :=
  (dr σ (some a0) (.inl 12)).bind fun a =>
  (G.2.1 a x1 x2 σ).bind fun p3 =>
  fc12_condition_7 N G N (some a0) p3.1 p3.2
def fc12_part_65 (N : Nat) (G : Rc12_condition) (K18 : Option Nat → Int32 → Me → Option (Int32 × Me)) (l0 : Option Nat) (s0 : Int32) (σ : Me) : Option (Int32 × Me) :=
  K18 l0 s0 σ
def fc12_part_64 (N : Nat) (G : Rc12_condition) (K18 : Option Nat → Int32 → Me → Option (Int32 × Me)) (l0 : Option Nat) (σ : Me) : Option (Int32 × Me) :=
  fc12_part_65 N G K18 l0 (0 : Int32) σ
def fc12_part_18 (N : Nat) (G : Rc12_condition) : Nat → Option Nat → Int32 → Me → Option (Int32 × Me)
  | 0, _, _, _ => none
  | n + 1, l0, l3, σ =>
    (qI σ 12 11 l0).bind fun v19 =>
    if v19 = (-1 : Int32) then
      (dr σ l0 (.inl 12)).bind fun a =>
      (fc12_look N a σ).bind fun p27 =>
      if p27.1 = (38 : Int32) then
        (qI p27.2 12 10 l0).bind fun v37 =>
        (pI p27.2 12 10 l0 (v37 + (1 : Int32))).bind fun σ42 =>
        (dr σ42 l0 (.inl 12)).bind fun a =>
        (G.2.2 a σ42).bind fun p46 =>
        if l3 = 0 then
          fc12_part_64 N G (fc12_part_18 N G n) l0 p46.2
        else
          if p46.1 = 0 then
            fc12_part_64 N G (fc12_part_18 N G n) l0 p46.2
          else
            fc12_part_65 N G (fc12_part_18 N G n) l0 (1 : Int32) p46.2
      else
        retZ l3 p27.2
    else
      retZ l3 σ
def fc12_part_17 (N : Nat) (G : Rc12_condition) (l0 : Option Nat) (s0 : Int32) (σ : Me) : Option (Int32 × Me) :=
  fc12_part_18 N G N l0 s0 σ
def bc12_part (N : Nat) (G : Rc12_condition) (a0 : Nat) (x1 : Int32) (x2 : Int32) (σ : Me) : Option (Int32 × Me) :=
  if x1 = 0 then
    (dr σ (some a0) (.inl 12)).bind fun a =>
    (G.2.2 a σ).bind fun p14 =>
    fc12_part_17 N G (some a0) p14.1 p14.2
  else
    (dr σ (some a0) (.inl 12)).bind fun a =>
    (fc12_compares N a (1 : Int32) x2 σ).bind fun p7 =>
    fc12_part_17 N G (some a0) p7.1 p7.2
def bc12_unit (N : Nat) (G : Rc12_condition) (a0 : Nat) (σ : Me) : Option (Int32 × Me) :=
  (dr σ (some a0) (.inl 12)).bind fun a =>
  (fc12_look N a σ).bind fun p1 =>
  if p1.1 = (33 : Int32) then
    (dr p1.2 (some a0) (.inl 12)).bind fun a =>
    (fc12_goesIn N a p1.2).bind fun p12 =>
    if p12.1 = 0 then
      retZ (0 : Int32) p12.2
    else
      (dr p12.2 (some a0) (.inl 12)).bind fun a =>
      (G.2.2 a p12.2).bind fun p21 =>
      (qI p21.2 12 12 (some a0)).bind fun v27 =>
      (pI p21.2 12 12 (some a0) (v27 - (1 : Int32))).bind fun σ32 =>
      if p21.1 = 0 then
        retZ (1 : Int32) σ32
      else
        retZ (0 : Int32) σ32
  else
    if p1.1 = (40 : Int32) then
      (dr p1.2 (some a0) (.inl 12)).bind fun a =>
      (fc12_goesIn N a p1.2).bind fun p52 =>
      if p52.1 = 0 then
        retZ (0 : Int32) p52.2
      else
        (dr p52.2 (some a0) (.inl 12)).bind fun a =>
        (G.1 a (0 : Int32) (0 : Int32) p52.2).bind fun p63 =>
        (dr p63.2 (some a0) (.inl 12)).bind fun a =>
        (fc12_takes N a (41 : Int32) p63.2).bind fun p70 =>
        if p70.1 = 0 then
          retZ (0 : Int32) p70.2
        else
          (qI p70.2 12 12 (some a0)).bind fun v80 =>
          (pI p70.2 12 12 (some a0) (v80 - (1 : Int32))).bind fun σ85 =>
          retZ p63.1 σ85
    else
      (dr p1.2 (some a0) (.inl 12)).bind fun a =>
      (fc12_compares N a (0 : Int32) (0 : Int32) p1.2).bind fun p93 =>
      retZ p93.1 p93.2
def GRc12_condition (N : Nat) : Nat → Rc12_condition
  | 0 => (fun _ _ _ _ => none, fun _ _ _ _ => none, fun _ _ => none)
  | D + 1 => (bc12_condition N (GRc12_condition N D), bc12_part N (GRc12_condition N D), bc12_unit N (GRc12_condition N D))
def fc12_condition (N : Nat) (a0 : Nat) (x1 : Int32) (x2 : Int32) (σ : Me) : Option (Int32 × Me) := (GRc12_condition N 64).1 a0 x1 x2 σ
def fc12_part (N : Nat) (a0 : Nat) (x1 : Int32) (x2 : Int32) (σ : Me) : Option (Int32 × Me) := (GRc12_condition N 64).2.1 a0 x1 x2 σ
def fc12_unit (N : Nat) (a0 : Nat) (σ : Me) : Option (Int32 × Me) := (GRc12_condition N 64).2.2 a0 σ
def HRc12_condition (Ω : Om) (D : Nat) (G : Rc12_condition) : Prop := (∀ (a0 : Nat) (x1 : Int32) (x2 : Int32) (σ : Me), Cor Ω tc12_condition (72 + D) 0 0 [vR (some a0), vI x1, vI x2] σ ιI (G.1 a0 x1 x2 σ)) ∧ (∀ (a0 : Nat) (x1 : Int32) (x2 : Int32) (σ : Me), Cor Ω tc12_part (72 + D) 0 0 [vR (some a0), vI x1, vI x2] σ ιI (G.2.1 a0 x1 x2 σ)) ∧ (∀ (a0 : Nat) (σ : Me), Cor Ω tc12_unit (72 + D) 0 0 [vR (some a0)] σ ιI (G.2.2 a0 σ))
set_option maxRecDepth 20000 in
set_option maxHeartbeats 2000000 in
theorem pc12_condition_56 {Ω : Om} {Γ : Ga} {N D : Nat} {G : Rc12_condition} (hG : Good Ω Γ tc12_condition (73 + D) 0 0) (hC : HRc12_condition Ω D G) {K7 : Option Nat → Int32 → Me → Option (Int32 × Me)} (hK7 : ∀ (l0 : Option Nat) (l3 : Int32) (σ : Me), Sim Ω Γ 0 0 ιI 5 7 [(0, vR l0), (3, vI l3)] [] σ 0 0 (K7 l0 l3 σ)) (l0 : Option Nat) (s0 : Int32) (σ : Me) : Sim Ω Γ 0 0 ιI 5 56 [(0, vR l0)] [vI s0] σ 0 0 (fc12_condition_56 N G K7 l0 s0 σ) := by
  unfold fc12_condition_56
  refine s_istore_n hG dc12_condition_56 (by decide) ?_
  refine s_goto hG 7 dc12_condition_57 (by decide) ?_
  exact s_lv (lc rfl (lc rfl ln)) (hK7 _ _ _)
set_option maxRecDepth 20000 in
set_option maxHeartbeats 2000000 in
theorem pc12_condition_51 {Ω : Om} {Γ : Ga} {N D : Nat} {G : Rc12_condition} (hG : Good Ω Γ tc12_condition (73 + D) 0 0) (hC : HRc12_condition Ω D G) {K7 : Option Nat → Int32 → Me → Option (Int32 × Me)} (hK7 : ∀ (l0 : Option Nat) (l3 : Int32) (σ : Me), Sim Ω Γ 0 0 ιI 5 7 [(0, vR l0), (3, vI l3)] [] σ 0 0 (K7 l0 l3 σ)) (l0 : Option Nat) (σ : Me) : Sim Ω Γ 0 0 ιI 5 51 [(0, vR l0)] [] σ 0 0 (fc12_condition_51 N G K7 l0 σ) := by
  unfold fc12_condition_51
  refine s_iconst (v := 1) hG dc12_condition_51 (by decide) ?_
  refine s_goto hG 56 dc12_condition_52 (by decide) ?_
  exact s_lv (lc rfl ln) (pc12_condition_56 hG hC hK7 _ _ _)
set_option maxRecDepth 20000 in
set_option maxHeartbeats 2000000 in
theorem pc12_condition_7 {Ω : Om} {Γ : Ga} {N D : Nat} {G : Rc12_condition} (hG : Good Ω Γ tc12_condition (73 + D) 0 0) (hC : HRc12_condition Ω D G)  : ∀ (n : Nat) (l0 : Option Nat) (l3 : Int32) (σ : Me), Sim Ω Γ 0 0 ιI 5 7 [(0, vR l0), (3, vI l3)] [] σ 0 0 (fc12_condition_7 N G n l0 l3 σ) := by
  intro n
  induction n with
  | zero => intros; exact s_none
  | succ n ih =>
    intro l0 l3 σ
    unfold fc12_condition_7
    refine s_aload_n hG dc12_condition_7 rfl ?_
    refine s_getI hG kFc12_132 rfl dc12_condition_8 (fun v8 => ?_)
    refine s_iconst (v := -1) hG dc12_condition_11 (by decide) ?_
    refine s_icmp_ne hG 60 dc12_condition_12 (by decide) ?_ ?_
    · refine s_iload_n hG dc12_condition_60 rfl ?_
      exact s_zret hG dc12_condition_61 rfl (Nat.le_of_ble_eq_true rfl) (Nat.le_of_ble_eq_true rfl)
    · refine s_aload_n hG dc12_condition_15 rfl ?_
      refine s_callVi hG kMc12_142 (fun a => corc12_look N a _) ⟨by decide, rfl⟩ rfl (by first | decide | omega) dc12_condition_16 rfl rfl (Nat.le_of_ble_eq_true rfl) ⟨Nat.le_of_ble_eq_true rfl, Nat.le_of_ble_eq_true rfl⟩ (fun p16 => ?_)
      refine s_bipush (v := 124) hG dc12_condition_19 (by decide) ?_
      refine s_icmp_ne hG 60 dc12_condition_21 (by decide) ?_ ?_
      · refine s_iload_n hG dc12_condition_60 rfl ?_
        exact s_zret hG dc12_condition_61 rfl (Nat.le_of_ble_eq_true rfl) (Nat.le_of_ble_eq_true rfl)
      · refine s_aload_n hG dc12_condition_24 rfl ?_
        refine s_dup hG dc12_condition_25 rfl ?_
        refine s_getI hG kFc12_123 rfl dc12_condition_26 (fun v26 => ?_)
        refine s_iconst (v := 1) hG dc12_condition_29 (by decide) ?_
        refine s_iadd hG dc12_condition_30 ?_
        refine s_putI (fin := false) hG kFc12_123 rfl (fun h => by cases h) rfl (fun _ => rfl) (fun _ => rfl) dc12_condition_31 (fun σ31 => ?_)
        refine s_aload_n hG dc12_condition_34 rfl ?_
        refine s_iconst (v := 0) hG dc12_condition_35 (by decide) ?_
        refine s_iconst (v := 0) hG dc12_condition_36 (by decide) ?_
        refine s_callVi hG kMc12_198 (fun a => hC.2.1 a _ _ _) ⟨by decide, rfl⟩ rfl (by first | decide | omega) dc12_condition_37 rfl rfl (Nat.le_of_ble_eq_true rfl) ⟨Nat.le_of_ble_eq_true rfl, Nat.le_of_ble_eq_true rfl⟩ (fun p37 => ?_)
        refine s_istore hG dc12_condition_40 (by decide) ?_
        refine s_iload_n hG dc12_condition_42 rfl ?_
        refine s_if_ne hG 51 dc12_condition_43 (by decide) ?_ ?_
        · exact s_lv (lc rfl ln) (pc12_condition_51 hG hC ih _ _)
        · refine s_iload hG dc12_condition_46 rfl ?_
          refine s_if_eq hG 55 dc12_condition_48 (by decide) ?_ ?_
          · refine s_iconst (v := 0) hG dc12_condition_55 (by decide) ?_
            exact s_lv (lc rfl ln) (pc12_condition_56 hG hC ih _ _ _)
          · exact s_lv (lc rfl ln) (pc12_condition_51 hG hC ih _ _)
set_option maxRecDepth 20000 in
set_option maxHeartbeats 2000000 in
theorem corbc12_condition {Ω : Om} {N D : Nat} {G : Rc12_condition} (hC : HRc12_condition Ω D G) (a0 : Nat) (x1 : Int32) (x2 : Int32) (σ : Me) : Cor Ω tc12_condition (73 + D) 0 0 [vR (some a0), vI x1, vI x2] σ ιI (bc12_condition N G a0 x1 x2 σ) := by
  refine Cor.of (by decide +kernel) (Nat.le_of_ble_eq_true rfl) (fun Γ hG => ?_)
  unfold bc12_condition
  show Sim Ω Γ 0 0 ιI 5 0 [(0, vR (some a0)), (1, vI x1), (2, vI x2)] [] σ 0 0 _
  refine s_aload_n hG dc12_condition_0 rfl ?_
  refine s_iload_n hG dc12_condition_1 rfl ?_
  refine s_iload_n hG dc12_condition_2 rfl ?_
  refine s_callVi hG kMc12_198 (fun a => hC.2.1 a _ _ _) ⟨by decide, rfl⟩ rfl (by first | decide | omega) dc12_condition_3 rfl rfl (Nat.le_of_ble_eq_true rfl) ⟨Nat.le_of_ble_eq_true rfl, Nat.le_of_ble_eq_true rfl⟩ (fun p3 => ?_)
  refine s_istore_n hG dc12_condition_6 (by decide) ?_
  exact s_lv (lc rfl (lc rfl ln)) (pc12_condition_7 hG hC _ _ _ _)
set_option maxRecDepth 20000 in
set_option maxHeartbeats 2000000 in
theorem pc12_part_65 {Ω : Om} {Γ : Ga} {N D : Nat} {G : Rc12_condition} (hG : Good Ω Γ tc12_part (73 + D) 0 0) (hC : HRc12_condition Ω D G) {K18 : Option Nat → Int32 → Me → Option (Int32 × Me)} (hK18 : ∀ (l0 : Option Nat) (l3 : Int32) (σ : Me), Sim Ω Γ 0 0 ιI 5 18 [(0, vR l0), (3, vI l3)] [] σ 0 0 (K18 l0 l3 σ)) (l0 : Option Nat) (s0 : Int32) (σ : Me) : Sim Ω Γ 0 0 ιI 5 65 [(0, vR l0)] [vI s0] σ 0 0 (fc12_part_65 N G K18 l0 s0 σ) := by
  unfold fc12_part_65
  refine s_istore_n hG dc12_part_65 (by decide) ?_
  refine s_goto hG 18 dc12_part_66 (by decide) ?_
  exact s_lv (lc rfl (lc rfl ln)) (hK18 _ _ _)
set_option maxRecDepth 20000 in
set_option maxHeartbeats 2000000 in
theorem pc12_part_64 {Ω : Om} {Γ : Ga} {N D : Nat} {G : Rc12_condition} (hG : Good Ω Γ tc12_part (73 + D) 0 0) (hC : HRc12_condition Ω D G) {K18 : Option Nat → Int32 → Me → Option (Int32 × Me)} (hK18 : ∀ (l0 : Option Nat) (l3 : Int32) (σ : Me), Sim Ω Γ 0 0 ιI 5 18 [(0, vR l0), (3, vI l3)] [] σ 0 0 (K18 l0 l3 σ)) (l0 : Option Nat) (σ : Me) : Sim Ω Γ 0 0 ιI 5 64 [(0, vR l0)] [] σ 0 0 (fc12_part_64 N G K18 l0 σ) := by
  unfold fc12_part_64
  refine s_iconst (v := 0) hG dc12_part_64 (by decide) ?_
  exact s_lv (lc rfl ln) (pc12_part_65 hG hC hK18 _ _ _)
set_option maxRecDepth 20000 in
set_option maxHeartbeats 2000000 in
theorem pc12_part_18 {Ω : Om} {Γ : Ga} {N D : Nat} {G : Rc12_condition} (hG : Good Ω Γ tc12_part (73 + D) 0 0) (hC : HRc12_condition Ω D G)  : ∀ (n : Nat) (l0 : Option Nat) (l3 : Int32) (σ : Me), Sim Ω Γ 0 0 ιI 5 18 [(0, vR l0), (3, vI l3)] [] σ 0 0 (fc12_part_18 N G n l0 l3 σ) := by
  intro n
  induction n with
  | zero => intros; exact s_none
  | succ n ih =>
    intro l0 l3 σ
    unfold fc12_part_18
    refine s_aload_n hG dc12_part_18 rfl ?_
    refine s_getI hG kFc12_132 rfl dc12_part_19 (fun v19 => ?_)
    refine s_iconst (v := -1) hG dc12_part_22 (by decide) ?_
    refine s_icmp_ne hG 69 dc12_part_23 (by decide) ?_ ?_
    · refine s_iload_n hG dc12_part_69 rfl ?_
      exact s_zret hG dc12_part_70 rfl (Nat.le_of_ble_eq_true rfl) (Nat.le_of_ble_eq_true rfl)
    · refine s_aload_n hG dc12_part_26 rfl ?_
      refine s_callVi hG kMc12_142 (fun a => corc12_look N a _) ⟨by decide, rfl⟩ rfl (by first | decide | omega) dc12_part_27 rfl rfl (Nat.le_of_ble_eq_true rfl) ⟨Nat.le_of_ble_eq_true rfl, Nat.le_of_ble_eq_true rfl⟩ (fun p27 => ?_)
      refine s_bipush (v := 38) hG dc12_part_30 (by decide) ?_
      refine s_icmp_ne hG 69 dc12_part_32 (by decide) ?_ ?_
      · refine s_iload_n hG dc12_part_69 rfl ?_
        exact s_zret hG dc12_part_70 rfl (Nat.le_of_ble_eq_true rfl) (Nat.le_of_ble_eq_true rfl)
      · refine s_aload_n hG dc12_part_35 rfl ?_
        refine s_dup hG dc12_part_36 rfl ?_
        refine s_getI hG kFc12_123 rfl dc12_part_37 (fun v37 => ?_)
        refine s_iconst (v := 1) hG dc12_part_40 (by decide) ?_
        refine s_iadd hG dc12_part_41 ?_
        refine s_putI (fin := false) hG kFc12_123 rfl (fun h => by cases h) rfl (fun _ => rfl) (fun _ => rfl) dc12_part_42 (fun σ42 => ?_)
        refine s_aload_n hG dc12_part_45 rfl ?_
        refine s_callVi hG kMc12_188 (fun a => hC.2.2 a _) ⟨by decide, rfl⟩ rfl (by first | decide | omega) dc12_part_46 rfl rfl (Nat.le_of_ble_eq_true rfl) ⟨Nat.le_of_ble_eq_true rfl, Nat.le_of_ble_eq_true rfl⟩ (fun p46 => ?_)
        refine s_istore hG dc12_part_49 (by decide) ?_
        refine s_iload_n hG dc12_part_51 rfl ?_
        refine s_if_eq hG 64 dc12_part_52 (by decide) ?_ ?_
        · exact s_lv (lc rfl ln) (pc12_part_64 hG hC ih _ _)
        · refine s_iload hG dc12_part_55 rfl ?_
          refine s_if_eq hG 64 dc12_part_57 (by decide) ?_ ?_
          · exact s_lv (lc rfl ln) (pc12_part_64 hG hC ih _ _)
          · refine s_iconst (v := 1) hG dc12_part_60 (by decide) ?_
            refine s_goto hG 65 dc12_part_61 (by decide) ?_
            exact s_lv (lc rfl ln) (pc12_part_65 hG hC ih _ _ _)
set_option maxRecDepth 20000 in
set_option maxHeartbeats 2000000 in
theorem pc12_part_17 {Ω : Om} {Γ : Ga} {N D : Nat} {G : Rc12_condition} (hG : Good Ω Γ tc12_part (73 + D) 0 0) (hC : HRc12_condition Ω D G) (l0 : Option Nat) (s0 : Int32) (σ : Me) : Sim Ω Γ 0 0 ιI 5 17 [(0, vR l0)] [vI s0] σ 0 0 (fc12_part_17 N G l0 s0 σ) := by
  unfold fc12_part_17
  refine s_istore_n hG dc12_part_17 (by decide) ?_
  exact s_lv (lc rfl (lc rfl ln)) (pc12_part_18 hG hC _ _ _ _)
set_option maxRecDepth 20000 in
set_option maxHeartbeats 2000000 in
theorem corbc12_part {Ω : Om} {N D : Nat} {G : Rc12_condition} (hC : HRc12_condition Ω D G) (a0 : Nat) (x1 : Int32) (x2 : Int32) (σ : Me) : Cor Ω tc12_part (73 + D) 0 0 [vR (some a0), vI x1, vI x2] σ ιI (bc12_part N G a0 x1 x2 σ) := by
  refine Cor.of (by decide +kernel) (Nat.le_of_ble_eq_true rfl) (fun Γ hG => ?_)
  unfold bc12_part
  show Sim Ω Γ 0 0 ιI 5 0 [(0, vR (some a0)), (1, vI x1), (2, vI x2)] [] σ 0 0 _
  refine s_iload_n hG dc12_part_0 rfl ?_
  refine s_if_eq hG 13 dc12_part_1 (by decide) ?_ ?_
  · refine s_aload_n hG dc12_part_13 rfl ?_
    refine s_callVi hG kMc12_188 (fun a => hC.2.2 a _) ⟨by decide, rfl⟩ rfl (by first | decide | omega) dc12_part_14 rfl rfl (Nat.le_of_ble_eq_true rfl) ⟨Nat.le_of_ble_eq_true rfl, Nat.le_of_ble_eq_true rfl⟩ (fun p14 => ?_)
    exact s_lv (lc rfl ln) (pc12_part_17 hG hC _ _ _)
  · refine s_aload_n hG dc12_part_4 rfl ?_
    refine s_iconst (v := 1) hG dc12_part_5 (by decide) ?_
    refine s_iload_n hG dc12_part_6 rfl ?_
    refine s_callVi hG kMc12_195 (fun a => corc12_compares N a _ _ _) ⟨by decide, rfl⟩ rfl (by first | decide | omega) dc12_part_7 rfl rfl (Nat.le_of_ble_eq_true rfl) ⟨Nat.le_of_ble_eq_true rfl, Nat.le_of_ble_eq_true rfl⟩ (fun p7 => ?_)
    refine s_goto hG 17 dc12_part_10 (by decide) ?_
    exact s_lv (lc rfl ln) (pc12_part_17 hG hC _ _ _)
set_option maxRecDepth 20000 in
set_option maxHeartbeats 2000000 in
theorem corbc12_unit {Ω : Om} {N D : Nat} {G : Rc12_condition} (hC : HRc12_condition Ω D G) (a0 : Nat) (σ : Me) : Cor Ω tc12_unit (73 + D) 0 0 [vR (some a0)] σ ιI (bc12_unit N G a0 σ) := by
  refine Cor.of (by decide +kernel) (Nat.le_of_ble_eq_true rfl) (fun Γ hG => ?_)
  unfold bc12_unit
  show Sim Ω Γ 0 0 ιI 3 0 [(0, vR (some a0))] [] σ 0 0 _
  refine s_aload_n hG dc12_unit_0 rfl ?_
  refine s_callVi hG kMc12_142 (fun a => corc12_look N a _) ⟨by decide, rfl⟩ rfl (by first | decide | omega) dc12_unit_1 rfl rfl (Nat.le_of_ble_eq_true rfl) ⟨Nat.le_of_ble_eq_true rfl, Nat.le_of_ble_eq_true rfl⟩ (fun p1 => ?_)
  refine s_istore_n hG dc12_unit_4 (by decide) ?_
  refine s_iload_n hG dc12_unit_5 rfl ?_
  refine s_bipush (v := 33) hG dc12_unit_6 (by decide) ?_
  refine s_icmp_ne hG 45 dc12_unit_8 (by decide) ?_ ?_
  · refine s_iload_n hG dc12_unit_45 rfl ?_
    refine s_bipush (v := 40) hG dc12_unit_46 (by decide) ?_
    refine s_icmp_ne hG 90 dc12_unit_48 (by decide) ?_ ?_
    · refine s_aload_n hG dc12_unit_90 rfl ?_
      refine s_iconst (v := 0) hG dc12_unit_91 (by decide) ?_
      refine s_iconst (v := 0) hG dc12_unit_92 (by decide) ?_
      refine s_callVi hG kMc12_195 (fun a => corc12_compares N a _ _ _) ⟨by decide, rfl⟩ rfl (by first | decide | omega) dc12_unit_93 rfl rfl (Nat.le_of_ble_eq_true rfl) ⟨Nat.le_of_ble_eq_true rfl, Nat.le_of_ble_eq_true rfl⟩ (fun p93 => ?_)
      exact s_zret hG dc12_unit_96 rfl (Nat.le_of_ble_eq_true rfl) (Nat.le_of_ble_eq_true rfl)
    · refine s_aload_n hG dc12_unit_51 rfl ?_
      refine s_callVi hG kMc12_162 (fun a => corc12_goesIn N a _) ⟨by decide, rfl⟩ rfl (by first | decide | omega) dc12_unit_52 rfl rfl (Nat.le_of_ble_eq_true rfl) ⟨Nat.le_of_ble_eq_true rfl, Nat.le_of_ble_eq_true rfl⟩ (fun p52 => ?_)
      refine s_if_ne hG 60 dc12_unit_55 (by decide) ?_ ?_
      · refine s_aload_n hG dc12_unit_60 rfl ?_
        refine s_iconst (v := 0) hG dc12_unit_61 (by decide) ?_
        refine s_iconst (v := 0) hG dc12_unit_62 (by decide) ?_
        refine s_callVi hG kMc12_191 (fun a => hC.1 a _ _ _) ⟨by decide, rfl⟩ rfl (by first | decide | omega) dc12_unit_63 rfl rfl (Nat.le_of_ble_eq_true rfl) ⟨Nat.le_of_ble_eq_true rfl, Nat.le_of_ble_eq_true rfl⟩ (fun p63 => ?_)
        refine s_istore_n hG dc12_unit_66 (by decide) ?_
        refine s_aload_n hG dc12_unit_67 rfl ?_
        refine s_bipush (v := 41) hG dc12_unit_68 (by decide) ?_
        refine s_callVi hG kMc12_168 (fun a => corc12_takes N a _ _) ⟨by decide, rfl⟩ rfl (by first | decide | omega) dc12_unit_70 rfl rfl (Nat.le_of_ble_eq_true rfl) ⟨Nat.le_of_ble_eq_true rfl, Nat.le_of_ble_eq_true rfl⟩ (fun p70 => ?_)
        refine s_if_ne hG 78 dc12_unit_73 (by decide) ?_ ?_
        · refine s_aload_n hG dc12_unit_78 rfl ?_
          refine s_dup hG dc12_unit_79 rfl ?_
          refine s_getI hG kFc12_135 rfl dc12_unit_80 (fun v80 => ?_)
          refine s_iconst (v := 1) hG dc12_unit_83 (by decide) ?_
          refine s_isub hG dc12_unit_84 ?_
          refine s_putI (fin := false) hG kFc12_135 rfl (fun h => by cases h) rfl (fun _ => rfl) (fun _ => rfl) dc12_unit_85 (fun σ85 => ?_)
          refine s_iload_n hG dc12_unit_88 rfl ?_
          exact s_zret hG dc12_unit_89 rfl (Nat.le_of_ble_eq_true rfl) (Nat.le_of_ble_eq_true rfl)
        · refine s_iconst (v := 0) hG dc12_unit_76 (by decide) ?_
          exact s_zret hG dc12_unit_77 rfl (Nat.le_of_ble_eq_true rfl) (Nat.le_of_ble_eq_true rfl)
      · refine s_iconst (v := 0) hG dc12_unit_58 (by decide) ?_
        exact s_zret hG dc12_unit_59 rfl (Nat.le_of_ble_eq_true rfl) (Nat.le_of_ble_eq_true rfl)
  · refine s_aload_n hG dc12_unit_11 rfl ?_
    refine s_callVi hG kMc12_162 (fun a => corc12_goesIn N a _) ⟨by decide, rfl⟩ rfl (by first | decide | omega) dc12_unit_12 rfl rfl (Nat.le_of_ble_eq_true rfl) ⟨Nat.le_of_ble_eq_true rfl, Nat.le_of_ble_eq_true rfl⟩ (fun p12 => ?_)
    refine s_if_ne hG 20 dc12_unit_15 (by decide) ?_ ?_
    · refine s_aload_n hG dc12_unit_20 rfl ?_
      refine s_callVi hG kMc12_188 (fun a => hC.2.2 a _) ⟨by decide, rfl⟩ rfl (by first | decide | omega) dc12_unit_21 rfl rfl (Nat.le_of_ble_eq_true rfl) ⟨Nat.le_of_ble_eq_true rfl, Nat.le_of_ble_eq_true rfl⟩ (fun p21 => ?_)
      refine s_istore_n hG dc12_unit_24 (by decide) ?_
      refine s_aload_n hG dc12_unit_25 rfl ?_
      refine s_dup hG dc12_unit_26 rfl ?_
      refine s_getI hG kFc12_135 rfl dc12_unit_27 (fun v27 => ?_)
      refine s_iconst (v := 1) hG dc12_unit_30 (by decide) ?_
      refine s_isub hG dc12_unit_31 ?_
      refine s_putI (fin := false) hG kFc12_135 rfl (fun h => by cases h) rfl (fun _ => rfl) (fun _ => rfl) dc12_unit_32 (fun σ32 => ?_)
      refine s_iload_n hG dc12_unit_35 rfl ?_
      refine s_if_ne hG 43 dc12_unit_36 (by decide) ?_ ?_
      · refine s_iconst (v := 0) hG dc12_unit_43 (by decide) ?_
        exact s_zret hG dc12_unit_44 rfl (Nat.le_of_ble_eq_true rfl) (Nat.le_of_ble_eq_true rfl)
      · refine s_iconst (v := 1) hG dc12_unit_39 (by decide) ?_
        refine s_goto hG 44 dc12_unit_40 (by decide) ?_
        exact s_zret hG dc12_unit_44 rfl (Nat.le_of_ble_eq_true rfl) (Nat.le_of_ble_eq_true rfl)
    · refine s_iconst (v := 0) hG dc12_unit_18 (by decide) ?_
      exact s_zret hG dc12_unit_19 rfl (Nat.le_of_ble_eq_true rfl) (Nat.le_of_ble_eq_true rfl)
set_option maxRecDepth 20000 in
set_option maxHeartbeats 2000000 in
theorem corRc12_condition {Ω : Om} (N : Nat) : ∀ D : Nat, HRc12_condition Ω D (GRc12_condition N D) := by
  intro D
  induction D with
  | zero => exact ⟨(fun _ _ _ _ r σ' e => by cases e), (fun _ _ _ _ r σ' e => by cases e), (fun _ _ r σ' e => by cases e)⟩
  | succ D ih => exact ⟨(fun a0 x1 x2 σ => by have h := corbc12_condition (Ω := Ω) (N := N) ih a0 x1 x2 σ; rw [show 73 + D = 72 + (D + 1) from by omega] at h; exact h), (fun a0 x1 x2 σ => by have h := corbc12_part (Ω := Ω) (N := N) ih a0 x1 x2 σ; rw [show 73 + D = 72 + (D + 1) from by omega] at h; exact h), (fun a0 σ => by have h := corbc12_unit (Ω := Ω) (N := N) ih a0 σ; rw [show 73 + D = 72 + (D + 1) from by omega] at h; exact h)⟩
set_option maxRecDepth 20000 in
set_option maxHeartbeats 2000000 in
theorem corc12_condition {Ω : Om} (N : Nat) (a0 : Nat) (x1 : Int32) (x2 : Int32) (σ : Me) : Cor Ω tc12_condition 136 0 0 [vR (some a0), vI x1, vI x2] σ ιI (fc12_condition N a0 x1 x2 σ) := (corRc12_condition N 64).1 a0 x1 x2 σ
set_option maxRecDepth 20000 in
set_option maxHeartbeats 2000000 in
theorem corc12_part {Ω : Om} (N : Nat) (a0 : Nat) (x1 : Int32) (x2 : Int32) (σ : Me) : Cor Ω tc12_part 136 0 0 [vR (some a0), vI x1, vI x2] σ ιI (fc12_part N a0 x1 x2 σ) := (corRc12_condition N 64).2.1 a0 x1 x2 σ
set_option maxRecDepth 20000 in
set_option maxHeartbeats 2000000 in
theorem corc12_unit {Ω : Om} (N : Nat) (a0 : Nat) (σ : Me) : Cor Ω tc12_unit 136 0 0 [vR (some a0)] σ ιI (fc12_unit N a0 σ) := (corRc12_condition N 64).2.2 a0 σ
def fc12_clause_134 (N : Nat) (l0 : Option Nat) (l1 : Int32) (l2 : Int32) (l3 : Int32) (σ : Me) : Option (Unit × Me) :=
  (qI σ 12 11 l0).bind fun v135 =>
  if v135 = (-1 : Int32) then
    (qI σ 12 17 l0).bind fun v143 =>
    if v143 = 0 then
      (qI σ 12 13 l0).bind fun v151 =>
      if l1 = v151 then
        if l2 = 0 then
          some ((), σ)
        else
          (pZ σ 12 17 l0 (1 : Int32)).bind fun σ164 =>
          (pI σ164 12 14 l0 l3).bind fun σ169 =>
          some ((), σ169)
      else
        some ((), σ)
    else
      some ((), σ)
  else
    some ((), σ)
def fc12_clause_64 (N : Nat) (l0 : Option Nat) (l1 : Int32) (σ : Me) : Option (Unit × Me) :=
  (dr σ l0 (.inl 12)).bind fun a =>
  (fc12_condition N a (0 : Int32) (0 : Int32) σ).bind fun p67 =>
  (dr p67.2 l0 (.inl 12)).bind fun a =>
  (fc12_takes N a (63 : Int32) p67.2).bind fun p74 =>
  if p74.1 = 0 then
    some ((), p74.2)
  else
    (dr p74.2 l0 (.inl 12)).bind fun a =>
    (fc12_sum N a p74.2).bind fun p82 =>
    fc12_clause_134 N l0 l1 p67.1 p82.1 p82.2
def fc12_clause (N : Nat) (a0 : Nat) (σ : Me) : Option (Unit × Me) :=
  (dr σ (some a0) (.inl 12)).bind fun a =>
  (fc12_look N a σ).bind fun p1 =>
  (fc12_isAmong N (some 1000024) p1.1 p1.2).bind fun p8 =>
  if p8.1 = 0 then
    (dr p8.2 (some a0) (.inl 12)).bind fun a =>
    (fc12_fails N a p8.2).bind fun p15 =>
    some ((), p15.2)
  else
    (qI p8.2 12 10 (some a0)).bind fun v22 =>
    (pI p8.2 12 10 (some a0) (v22 + (1 : Int32))).bind fun σ27 =>
    (dr σ27 (some a0) (.inl 12)).bind fun a =>
    (fc12_takes N a (58 : Int32) σ27).bind fun p33 =>
    if p33.1 = 0 then
      some ((), p33.2)
    else
      (dr p33.2 (some a0) (.inl 12)).bind fun a =>
      (fc12_look N a p33.2).bind fun p45 =>
      if p45.1 = (33 : Int32) then
        fc12_clause_64 N (some a0) p1.1 p45.2
      else
        if p45.1 = (40 : Int32) then
          fc12_clause_64 N (some a0) p1.1 p45.2
        else
          (dr p45.2 (some a0) (.inl 12)).bind fun a =>
          (fc12_sum N a p45.2).bind fun p90 =>
          (qI p90.2 12 11 (some a0)).bind fun v95 =>
          if v95 = (-1 : Int32) then
            (dr p90.2 (some a0) (.inl 12)).bind fun a =>
            (fc12_look N a p90.2).bind fun p103 =>
            (fc12_isSign N p103.1 p103.2).bind fun p106 =>
            if p106.1 = 0 then
              fc12_clause_134 N (some a0) p1.1 (1 : Int32) p90.1 p106.2
            else
              (dr p106.2 (some a0) (.inl 12)).bind fun a =>
              (fc12_condition N a (1 : Int32) p90.1 p106.2).bind fun p115 =>
              (dr p115.2 (some a0) (.inl 12)).bind fun a =>
              (fc12_takes N a (63 : Int32) p115.2).bind fun p122 =>
              if p122.1 = 0 then
                some ((), p122.2)
              else
                (dr p122.2 (some a0) (.inl 12)).bind fun a =>
                (fc12_sum N a p122.2).bind fun p130 =>
                fc12_clause_134 N (some a0) p1.1 p115.1 p130.1 p130.2
          else
            fc12_clause_134 N (some a0) p1.1 (1 : Int32) p90.1 p90.2
set_option maxRecDepth 20000 in
set_option maxHeartbeats 2000000 in
theorem pc12_clause_134 {Ω : Om} {Γ : Ga} {N : Nat} (hG : Good Ω Γ tc12_clause 137 0 0) (l0 : Option Nat) (l1 : Int32) (l2 : Int32) (l3 : Int32) (σ : Me) : Sim Ω Γ 0 0 ιV 5 134 [(0, vR l0), (1, vI l1), (2, vI l2), (3, vI l3)] [] σ 0 0 (fc12_clause_134 N l0 l1 l2 l3 σ) := by
  unfold fc12_clause_134
  refine s_aload_n hG dc12_clause_134 rfl ?_
  refine s_getI hG kFc12_132 rfl dc12_clause_135 (fun v135 => ?_)
  refine s_iconst (v := -1) hG dc12_clause_138 (by decide) ?_
  refine s_icmp_ne hG 161 dc12_clause_139 (by decide) ?_ ?_
  · exact s_vret hG dc12_clause_161 rfl (Nat.le_of_ble_eq_true rfl) (Nat.le_of_ble_eq_true rfl)
  · refine s_aload_n hG dc12_clause_142 rfl ?_
    refine s_getI hG kFc12_201 rfl dc12_clause_143 (fun v143 => ?_)
    refine s_if_ne hG 161 dc12_clause_146 (by decide) ?_ ?_
    · exact s_vret hG dc12_clause_161 rfl (Nat.le_of_ble_eq_true rfl) (Nat.le_of_ble_eq_true rfl)
    · refine s_iload_n hG dc12_clause_149 rfl ?_
      refine s_aload_n hG dc12_clause_150 rfl ?_
      refine s_getI hG kFc12_205 rfl dc12_clause_151 (fun v151 => ?_)
      refine s_icmp_ne hG 161 dc12_clause_154 (by decide) ?_ ?_
      · exact s_vret hG dc12_clause_161 rfl (Nat.le_of_ble_eq_true rfl) (Nat.le_of_ble_eq_true rfl)
      · refine s_iload_n hG dc12_clause_157 rfl ?_
        refine s_if_ne hG 162 dc12_clause_158 (by decide) ?_ ?_
        · refine s_aload_n hG dc12_clause_162 rfl ?_
          refine s_iconst (v := 1) hG dc12_clause_163 (by decide) ?_
          refine s_putZ hG kFc12_201 rfl rfl dc12_clause_164 (fun σ164 => ?_)
          refine s_aload_n hG dc12_clause_167 rfl ?_
          refine s_iload_n hG dc12_clause_168 rfl ?_
          refine s_putI (fin := false) hG kFc12_208 rfl (fun h => by cases h) rfl (fun _ => rfl) (fun _ => rfl) dc12_clause_169 (fun σ169 => ?_)
          exact s_vret hG dc12_clause_172 rfl (Nat.le_of_ble_eq_true rfl) (Nat.le_of_ble_eq_true rfl)
        · exact s_vret hG dc12_clause_161 rfl (Nat.le_of_ble_eq_true rfl) (Nat.le_of_ble_eq_true rfl)
set_option maxRecDepth 20000 in
set_option maxHeartbeats 2000000 in
theorem pc12_clause_64 {Ω : Om} {Γ : Ga} {N : Nat} (hG : Good Ω Γ tc12_clause 137 0 0) (l0 : Option Nat) (l1 : Int32) (σ : Me) : Sim Ω Γ 0 0 ιV 5 64 [(0, vR l0), (1, vI l1)] [] σ 0 0 (fc12_clause_64 N l0 l1 σ) := by
  unfold fc12_clause_64
  refine s_aload_n hG dc12_clause_64 rfl ?_
  refine s_iconst (v := 0) hG dc12_clause_65 (by decide) ?_
  refine s_iconst (v := 0) hG dc12_clause_66 (by decide) ?_
  refine s_callVi hG kMc12_191 (fun a => corc12_condition N a _ _ _) ⟨by decide, rfl⟩ rfl (by first | decide | omega) dc12_clause_67 rfl rfl (Nat.le_of_ble_eq_true rfl) ⟨Nat.le_of_ble_eq_true rfl, Nat.le_of_ble_eq_true rfl⟩ (fun p67 => ?_)
  refine s_istore_n hG dc12_clause_70 (by decide) ?_
  refine s_aload_n hG dc12_clause_71 rfl ?_
  refine s_bipush (v := 63) hG dc12_clause_72 (by decide) ?_
  refine s_callVi hG kMc12_168 (fun a => corc12_takes N a _ _) ⟨by decide, rfl⟩ rfl (by first | decide | omega) dc12_clause_74 rfl rfl (Nat.le_of_ble_eq_true rfl) ⟨Nat.le_of_ble_eq_true rfl, Nat.le_of_ble_eq_true rfl⟩ (fun p74 => ?_)
  refine s_if_ne hG 81 dc12_clause_77 (by decide) ?_ ?_
  · refine s_aload_n hG dc12_clause_81 rfl ?_
    refine s_callVi hG kMc12_165 (fun a => corc12_sum N a _) ⟨by decide, rfl⟩ rfl (by first | decide | omega) dc12_clause_82 rfl rfl (Nat.le_of_ble_eq_true rfl) ⟨Nat.le_of_ble_eq_true rfl, Nat.le_of_ble_eq_true rfl⟩ (fun p82 => ?_)
    refine s_istore_n hG dc12_clause_85 (by decide) ?_
    refine s_goto hG 134 dc12_clause_86 (by decide) ?_
    exact s_lv (lc rfl (lc rfl (lc rfl (lc rfl ln)))) (pc12_clause_134 hG _ _ _ _ _)
  · exact s_vret hG dc12_clause_80 rfl (Nat.le_of_ble_eq_true rfl) (Nat.le_of_ble_eq_true rfl)
set_option maxRecDepth 20000 in
set_option maxHeartbeats 2000000 in
theorem corc12_clause {Ω : Om} (N : Nat) (a0 : Nat) (σ : Me) : Cor Ω tc12_clause 137 0 0 [vR (some a0)] σ ιV (fc12_clause N a0 σ) := by
  refine Cor.of (by decide +kernel) (Nat.le_of_ble_eq_true rfl) (fun Γ hG => ?_)
  unfold fc12_clause
  show Sim Ω Γ 0 0 ιV 5 0 [(0, vR (some a0))] [] σ 0 0 _
  refine s_aload_n hG dc12_clause_0 rfl ?_
  refine s_callVi hG kMc12_142 (fun a => corc12_look N a _) ⟨by decide, rfl⟩ rfl (by first | decide | omega) dc12_clause_1 rfl rfl (Nat.le_of_ble_eq_true rfl) ⟨Nat.le_of_ble_eq_true rfl, Nat.le_of_ble_eq_true rfl⟩ (fun p1 => ?_)
  refine s_istore_n hG dc12_clause_4 (by decide) ?_
  refine s_ldcS hG 4 (by decide) rfl rfl dc12_clause_5 ?_
  refine s_iload_n hG dc12_clause_7 rfl ?_
  refine s_callSi hG kMc12_158 (corc12_isAmong N _ _ _) rfl (by first | decide | omega) dc12_clause_8 rfl rfl (Nat.le_of_ble_eq_true rfl) ⟨Nat.le_of_ble_eq_true rfl, Nat.le_of_ble_eq_true rfl⟩ (fun p8 => ?_)
  refine s_if_ne hG 20 dc12_clause_11 (by decide) ?_ ?_
  · refine s_aload_n hG dc12_clause_20 rfl ?_
    refine s_dup hG dc12_clause_21 rfl ?_
    refine s_getI hG kFc12_123 rfl dc12_clause_22 (fun v22 => ?_)
    refine s_iconst (v := 1) hG dc12_clause_25 (by decide) ?_
    refine s_iadd hG dc12_clause_26 ?_
    refine s_putI (fin := false) hG kFc12_123 rfl (fun h => by cases h) rfl (fun _ => rfl) (fun _ => rfl) dc12_clause_27 (fun σ27 => ?_)
    refine s_aload_n hG dc12_clause_30 rfl ?_
    refine s_bipush (v := 58) hG dc12_clause_31 (by decide) ?_
    refine s_callVi hG kMc12_168 (fun a => corc12_takes N a _ _) ⟨by decide, rfl⟩ rfl (by first | decide | omega) dc12_clause_33 rfl rfl (Nat.le_of_ble_eq_true rfl) ⟨Nat.le_of_ble_eq_true rfl, Nat.le_of_ble_eq_true rfl⟩ (fun p33 => ?_)
    refine s_if_ne hG 40 dc12_clause_36 (by decide) ?_ ?_
    · refine s_iconst (v := 1) hG dc12_clause_40 (by decide) ?_
      refine s_istore_n hG dc12_clause_41 (by decide) ?_
      refine s_iconst (v := 0) hG dc12_clause_42 (by decide) ?_
      refine s_istore_n hG dc12_clause_43 (by decide) ?_
      refine s_aload_n hG dc12_clause_44 rfl ?_
      refine s_callVi hG kMc12_142 (fun a => corc12_look N a _) ⟨by decide, rfl⟩ rfl (by first | decide | omega) dc12_clause_45 rfl rfl (Nat.le_of_ble_eq_true rfl) ⟨Nat.le_of_ble_eq_true rfl, Nat.le_of_ble_eq_true rfl⟩ (fun p45 => ?_)
      refine s_istore hG dc12_clause_48 (by decide) ?_
      refine s_iload hG dc12_clause_50 rfl ?_
      refine s_bipush (v := 33) hG dc12_clause_52 (by decide) ?_
      refine s_icmp_eq hG 64 dc12_clause_54 (by decide) ?_ ?_
      · exact s_lv (lc rfl (lc rfl ln)) (pc12_clause_64 hG _ _ _)
      · refine s_iload hG dc12_clause_57 rfl ?_
        refine s_bipush (v := 40) hG dc12_clause_59 (by decide) ?_
        refine s_icmp_ne hG 89 dc12_clause_61 (by decide) ?_ ?_
        · refine s_aload_n hG dc12_clause_89 rfl ?_
          refine s_callVi hG kMc12_165 (fun a => corc12_sum N a _) ⟨by decide, rfl⟩ rfl (by first | decide | omega) dc12_clause_90 rfl rfl (Nat.le_of_ble_eq_true rfl) ⟨Nat.le_of_ble_eq_true rfl, Nat.le_of_ble_eq_true rfl⟩ (fun p90 => ?_)
          refine s_istore_n hG dc12_clause_93 (by decide) ?_
          refine s_aload_n hG dc12_clause_94 rfl ?_
          refine s_getI hG kFc12_132 rfl dc12_clause_95 (fun v95 => ?_)
          refine s_iconst (v := -1) hG dc12_clause_98 (by decide) ?_
          refine s_icmp_ne hG 134 dc12_clause_99 (by decide) ?_ ?_
          · exact s_lv (lc rfl (lc rfl (lc rfl (lc rfl ln)))) (pc12_clause_134 hG _ _ _ _ _)
          · refine s_aload_n hG dc12_clause_102 rfl ?_
            refine s_callVi hG kMc12_142 (fun a => corc12_look N a _) ⟨by decide, rfl⟩ rfl (by first | decide | omega) dc12_clause_103 rfl rfl (Nat.le_of_ble_eq_true rfl) ⟨Nat.le_of_ble_eq_true rfl, Nat.le_of_ble_eq_true rfl⟩ (fun p103 => ?_)
            refine s_callSi hG kMc12_185 (corc12_isSign N _ _) rfl (by first | decide | omega) dc12_clause_106 rfl rfl (Nat.le_of_ble_eq_true rfl) ⟨Nat.le_of_ble_eq_true rfl, Nat.le_of_ble_eq_true rfl⟩ (fun p106 => ?_)
            refine s_if_eq hG 134 dc12_clause_109 (by decide) ?_ ?_
            · exact s_lv (lc rfl (lc rfl (lc rfl (lc rfl ln)))) (pc12_clause_134 hG _ _ _ _ _)
            · refine s_aload_n hG dc12_clause_112 rfl ?_
              refine s_iconst (v := 1) hG dc12_clause_113 (by decide) ?_
              refine s_iload_n hG dc12_clause_114 rfl ?_
              refine s_callVi hG kMc12_191 (fun a => corc12_condition N a _ _ _) ⟨by decide, rfl⟩ rfl (by first | decide | omega) dc12_clause_115 rfl rfl (Nat.le_of_ble_eq_true rfl) ⟨Nat.le_of_ble_eq_true rfl, Nat.le_of_ble_eq_true rfl⟩ (fun p115 => ?_)
              refine s_istore_n hG dc12_clause_118 (by decide) ?_
              refine s_aload_n hG dc12_clause_119 rfl ?_
              refine s_bipush (v := 63) hG dc12_clause_120 (by decide) ?_
              refine s_callVi hG kMc12_168 (fun a => corc12_takes N a _ _) ⟨by decide, rfl⟩ rfl (by first | decide | omega) dc12_clause_122 rfl rfl (Nat.le_of_ble_eq_true rfl) ⟨Nat.le_of_ble_eq_true rfl, Nat.le_of_ble_eq_true rfl⟩ (fun p122 => ?_)
              refine s_if_ne hG 129 dc12_clause_125 (by decide) ?_ ?_
              · refine s_aload_n hG dc12_clause_129 rfl ?_
                refine s_callVi hG kMc12_165 (fun a => corc12_sum N a _) ⟨by decide, rfl⟩ rfl (by first | decide | omega) dc12_clause_130 rfl rfl (Nat.le_of_ble_eq_true rfl) ⟨Nat.le_of_ble_eq_true rfl, Nat.le_of_ble_eq_true rfl⟩ (fun p130 => ?_)
                refine s_istore_n hG dc12_clause_133 (by decide) ?_
                exact s_lv (lc rfl (lc rfl (lc rfl (lc rfl ln)))) (pc12_clause_134 hG _ _ _ _ _)
              · exact s_vret hG dc12_clause_128 rfl (Nat.le_of_ble_eq_true rfl) (Nat.le_of_ble_eq_true rfl)
        · exact s_lv (lc rfl (lc rfl ln)) (pc12_clause_64 hG _ _ _)
    · exact s_vret hG dc12_clause_39 rfl (Nat.le_of_ble_eq_true rfl) (Nat.le_of_ble_eq_true rfl)
  · refine s_aload_n hG dc12_clause_14 rfl ?_
    refine s_callVi hG kMc12_138 (fun a => corc12_fails N a _) ⟨by decide, rfl⟩ rfl (by first | decide | omega) dc12_clause_15 rfl rfl (Nat.le_of_ble_eq_true rfl) ⟨Nat.le_of_ble_eq_true rfl, Nat.le_of_ble_eq_true rfl⟩ (fun p15 => ?_)
    refine s_pop hG dc12_clause_18 rfl ?_
    exact s_vret hG dc12_clause_19 rfl (Nat.le_of_ble_eq_true rfl) (Nat.le_of_ble_eq_true rfl)
def fc12_starts (N : Nat) (a0 : Nat) (x1 : Option Nat) (x2 : Int32) (x3 : Int32) (σ : Me) : Option (Unit × Me) :=
  (pR σ 12 5 (some a0) x1).bind fun σ2 =>
  (pI σ2 12 8 (some a0) x2).bind fun σ7 =>
  (pI σ7 12 9 (some a0) x3).bind fun σ12 =>
  (pI σ12 12 10 (some a0) (0 : Int32)).bind fun σ17 =>
  (pI σ17 12 11 (some a0) (-1 : Int32)).bind fun σ22 =>
  some ((), σ22)
set_option maxRecDepth 20000 in
set_option maxHeartbeats 2000000 in
theorem corc12_starts {Ω : Om} (N : Nat) (a0 : Nat) (x1 : Option Nat) (x2 : Int32) (x3 : Int32) (σ : Me) : Cor Ω tc12_starts 1 0 0 [vR (some a0), vR x1, vI x2, vI x3] σ ιV (fc12_starts N a0 x1 x2 x3 σ) := by
  refine Cor.of (by decide +kernel) (Nat.le_of_ble_eq_true rfl) (fun Γ hG => ?_)
  unfold fc12_starts
  show Sim Ω Γ 0 0 ιV 4 0 [(0, vR (some a0)), (1, vR x1), (2, vI x2), (3, vI x3)] [] σ 0 0 _
  refine s_aload_n hG dc12_starts_0 rfl ?_
  refine s_aload_n hG dc12_starts_1 rfl ?_
  refine s_putR (fin := false) hG kFc12_23 rfl (fun h => by cases h) rfl (fun v => by cases v <;> rfl) (fun v => by cases v <;> rfl) dc12_starts_2 (fun σ2 => ?_)
  refine s_aload_n hG dc12_starts_5 rfl ?_
  refine s_iload_n hG dc12_starts_6 rfl ?_
  refine s_putI (fin := false) hG kFc12_129 rfl (fun h => by cases h) rfl (fun _ => rfl) (fun _ => rfl) dc12_starts_7 (fun σ7 => ?_)
  refine s_aload_n hG dc12_starts_10 rfl ?_
  refine s_iload_n hG dc12_starts_11 rfl ?_
  refine s_putI (fin := false) hG kFc12_126 rfl (fun h => by cases h) rfl (fun _ => rfl) (fun _ => rfl) dc12_starts_12 (fun σ12 => ?_)
  refine s_aload_n hG dc12_starts_15 rfl ?_
  refine s_iconst (v := 0) hG dc12_starts_16 (by decide) ?_
  refine s_putI (fin := false) hG kFc12_123 rfl (fun h => by cases h) rfl (fun _ => rfl) (fun _ => rfl) dc12_starts_17 (fun σ17 => ?_)
  refine s_aload_n hG dc12_starts_20 rfl ?_
  refine s_iconst (v := -1) hG dc12_starts_21 (by decide) ?_
  refine s_putI (fin := false) hG kFc12_132 rfl (fun h => by cases h) rfl (fun _ => rfl) (fun _ => rfl) dc12_starts_22 (fun σ22 => ?_)
  exact s_vret hG dc12_starts_25 rfl (Nat.le_of_ble_eq_true rfl) (Nat.le_of_ble_eq_true rfl)
def fc12_goThrough_66 (N : Nat) (l0 : Option Nat) (σ : Me) : Option (Unit × Me) :=
  (qI σ 12 11 l0).bind fun v67 =>
  if v67 = (-1 : Int32) then
    (dr σ l0 (.inl 12)).bind fun a =>
    (fc12_look N a σ).bind fun p75 =>
    if p75.1 = (-1 : Int32) then
      some ((), p75.2)
    else
      (dr p75.2 l0 (.inl 12)).bind fun a =>
      (fc12_fails N a p75.2).bind fun p83 =>
      some ((), p83.2)
  else
    some ((), σ)
def fc12_goThrough_32 (N : Nat) : Nat → Option Nat → Me → Option (Unit × Me)
  | 0, _, _ => none
  | n + 1, l0, σ =>
    (qI σ 12 11 l0).bind fun v33 =>
    if v33 = (-1 : Int32) then
      (dr σ l0 (.inl 12)).bind fun a =>
      (fc12_look N a σ).bind fun p41 =>
      if p41.1 = (59 : Int32) then
        (qI p41.2 12 10 l0).bind fun v51 =>
        (pI p41.2 12 10 l0 (v51 + (1 : Int32))).bind fun σ56 =>
        (dr σ56 l0 (.inl 12)).bind fun a =>
        (fc12_clause N a σ56).bind fun p60 =>
        (fc12_goThrough_32 N n) l0 p60.2
      else
        fc12_goThrough_66 N l0 p41.2
    else
      fc12_goThrough_66 N l0 σ
def fc12_goThrough (N : Nat) (a0 : Nat) (x1 : Option Nat) (x2 : Int32) (x3 : Int32) (σ : Me) : Option (Unit × Me) :=
  (dr σ (some a0) (.inl 12)).bind fun a =>
  (fc12_starts N a x1 x2 x3 σ).bind fun p4 =>
  (pI p4.2 12 13 (some a0) (121 : Int32)).bind fun σ10 =>
  (pI σ10 12 12 (some a0) (0 : Int32)).bind fun σ15 =>
  (pZ σ15 12 17 (some a0) (0 : Int32)).bind fun σ20 =>
  (pI σ20 12 14 (some a0) (0 : Int32)).bind fun σ25 =>
  (dr σ25 (some a0) (.inl 12)).bind fun a =>
  (fc12_clause N a σ25).bind fun p29 =>
  fc12_goThrough_32 N N (some a0) p29.2
set_option maxRecDepth 20000 in
set_option maxHeartbeats 2000000 in
theorem pc12_goThrough_66 {Ω : Om} {Γ : Ga} {N : Nat} (hG : Good Ω Γ tc12_goThrough 138 0 0) (l0 : Option Nat) (σ : Me) : Sim Ω Γ 0 0 ιV 4 66 [(0, vR l0)] [] σ 0 0 (fc12_goThrough_66 N l0 σ) := by
  unfold fc12_goThrough_66
  refine s_aload_n hG dc12_goThrough_66 rfl ?_
  refine s_getI hG kFc12_132 rfl dc12_goThrough_67 (fun v67 => ?_)
  refine s_iconst (v := -1) hG dc12_goThrough_70 (by decide) ?_
  refine s_icmp_ne hG 87 dc12_goThrough_71 (by decide) ?_ ?_
  · exact s_vret hG dc12_goThrough_87 rfl (Nat.le_of_ble_eq_true rfl) (Nat.le_of_ble_eq_true rfl)
  · refine s_aload_n hG dc12_goThrough_74 rfl ?_
    refine s_callVi hG kMc12_142 (fun a => corc12_look N a _) ⟨by decide, rfl⟩ rfl (by first | decide | omega) dc12_goThrough_75 rfl rfl (Nat.le_of_ble_eq_true rfl) ⟨Nat.le_of_ble_eq_true rfl, Nat.le_of_ble_eq_true rfl⟩ (fun p75 => ?_)
    refine s_iconst (v := -1) hG dc12_goThrough_78 (by decide) ?_
    refine s_icmp_eq hG 87 dc12_goThrough_79 (by decide) ?_ ?_
    · exact s_vret hG dc12_goThrough_87 rfl (Nat.le_of_ble_eq_true rfl) (Nat.le_of_ble_eq_true rfl)
    · refine s_aload_n hG dc12_goThrough_82 rfl ?_
      refine s_callVi hG kMc12_138 (fun a => corc12_fails N a _) ⟨by decide, rfl⟩ rfl (by first | decide | omega) dc12_goThrough_83 rfl rfl (Nat.le_of_ble_eq_true rfl) ⟨Nat.le_of_ble_eq_true rfl, Nat.le_of_ble_eq_true rfl⟩ (fun p83 => ?_)
      refine s_pop hG dc12_goThrough_86 rfl ?_
      exact s_vret hG dc12_goThrough_87 rfl (Nat.le_of_ble_eq_true rfl) (Nat.le_of_ble_eq_true rfl)
set_option maxRecDepth 20000 in
set_option maxHeartbeats 2000000 in
theorem pc12_goThrough_32 {Ω : Om} {Γ : Ga} {N : Nat} (hG : Good Ω Γ tc12_goThrough 138 0 0)  : ∀ (n : Nat) (l0 : Option Nat) (σ : Me), Sim Ω Γ 0 0 ιV 4 32 [(0, vR l0)] [] σ 0 0 (fc12_goThrough_32 N n l0 σ) := by
  intro n
  induction n with
  | zero => intros; exact s_none
  | succ n ih =>
    intro l0 σ
    unfold fc12_goThrough_32
    refine s_aload_n hG dc12_goThrough_32 rfl ?_
    refine s_getI hG kFc12_132 rfl dc12_goThrough_33 (fun v33 => ?_)
    refine s_iconst (v := -1) hG dc12_goThrough_36 (by decide) ?_
    refine s_icmp_ne hG 66 dc12_goThrough_37 (by decide) ?_ ?_
    · exact s_lv (lc rfl ln) (pc12_goThrough_66 hG _ _)
    · refine s_aload_n hG dc12_goThrough_40 rfl ?_
      refine s_callVi hG kMc12_142 (fun a => corc12_look N a _) ⟨by decide, rfl⟩ rfl (by first | decide | omega) dc12_goThrough_41 rfl rfl (Nat.le_of_ble_eq_true rfl) ⟨Nat.le_of_ble_eq_true rfl, Nat.le_of_ble_eq_true rfl⟩ (fun p41 => ?_)
      refine s_bipush (v := 59) hG dc12_goThrough_44 (by decide) ?_
      refine s_icmp_ne hG 66 dc12_goThrough_46 (by decide) ?_ ?_
      · exact s_lv (lc rfl ln) (pc12_goThrough_66 hG _ _)
      · refine s_aload_n hG dc12_goThrough_49 rfl ?_
        refine s_dup hG dc12_goThrough_50 rfl ?_
        refine s_getI hG kFc12_123 rfl dc12_goThrough_51 (fun v51 => ?_)
        refine s_iconst (v := 1) hG dc12_goThrough_54 (by decide) ?_
        refine s_iadd hG dc12_goThrough_55 ?_
        refine s_putI (fin := false) hG kFc12_123 rfl (fun h => by cases h) rfl (fun _ => rfl) (fun _ => rfl) dc12_goThrough_56 (fun σ56 => ?_)
        refine s_aload_n hG dc12_goThrough_59 rfl ?_
        refine s_callVv hG kMc12_215 (fun a => corc12_clause N a _) ⟨by decide, rfl⟩ rfl (by first | decide | omega) dc12_goThrough_60 rfl rfl (Nat.le_of_ble_eq_true rfl) ⟨Nat.le_of_ble_eq_true rfl, Nat.le_of_ble_eq_true rfl⟩ (fun p60 => ?_)
        refine s_goto hG 32 dc12_goThrough_63 (by decide) ?_
        exact s_lv (lc rfl ln) (ih _ _)
set_option maxRecDepth 20000 in
set_option maxHeartbeats 2000000 in
theorem corc12_goThrough {Ω : Om} (N : Nat) (a0 : Nat) (x1 : Option Nat) (x2 : Int32) (x3 : Int32) (σ : Me) : Cor Ω tc12_goThrough 138 0 0 [vR (some a0), vR x1, vI x2, vI x3] σ ιV (fc12_goThrough N a0 x1 x2 x3 σ) := by
  refine Cor.of (by decide +kernel) (Nat.le_of_ble_eq_true rfl) (fun Γ hG => ?_)
  unfold fc12_goThrough
  show Sim Ω Γ 0 0 ιV 4 0 [(0, vR (some a0)), (1, vR x1), (2, vI x2), (3, vI x3)] [] σ 0 0 _
  refine s_aload_n hG dc12_goThrough_0 rfl ?_
  refine s_aload_n hG dc12_goThrough_1 rfl ?_
  refine s_iload_n hG dc12_goThrough_2 rfl ?_
  refine s_iload_n hG dc12_goThrough_3 rfl ?_
  refine s_callVv hG kMc12_211 (fun a => corc12_starts N a _ _ _ _) ⟨by decide, rfl⟩ rfl (by first | decide | omega) dc12_goThrough_4 rfl rfl (Nat.le_of_ble_eq_true rfl) ⟨Nat.le_of_ble_eq_true rfl, Nat.le_of_ble_eq_true rfl⟩ (fun p4 => ?_)
  refine s_aload_n hG dc12_goThrough_7 rfl ?_
  refine s_bipush (v := 121) hG dc12_goThrough_8 (by decide) ?_
  refine s_putI (fin := false) hG kFc12_205 rfl (fun h => by cases h) rfl (fun _ => rfl) (fun _ => rfl) dc12_goThrough_10 (fun σ10 => ?_)
  refine s_aload_n hG dc12_goThrough_13 rfl ?_
  refine s_iconst (v := 0) hG dc12_goThrough_14 (by decide) ?_
  refine s_putI (fin := false) hG kFc12_135 rfl (fun h => by cases h) rfl (fun _ => rfl) (fun _ => rfl) dc12_goThrough_15 (fun σ15 => ?_)
  refine s_aload_n hG dc12_goThrough_18 rfl ?_
  refine s_iconst (v := 0) hG dc12_goThrough_19 (by decide) ?_
  refine s_putZ hG kFc12_201 rfl rfl dc12_goThrough_20 (fun σ20 => ?_)
  refine s_aload_n hG dc12_goThrough_23 rfl ?_
  refine s_iconst (v := 0) hG dc12_goThrough_24 (by decide) ?_
  refine s_putI (fin := false) hG kFc12_208 rfl (fun h => by cases h) rfl (fun _ => rfl) (fun _ => rfl) dc12_goThrough_25 (fun σ25 => ?_)
  refine s_aload_n hG dc12_goThrough_28 rfl ?_
  refine s_callVv hG kMc12_215 (fun a => corc12_clause N a _) ⟨by decide, rfl⟩ rfl (by first | decide | omega) dc12_goThrough_29 rfl rfl (Nat.le_of_ble_eq_true rfl) ⟨Nat.le_of_ble_eq_true rfl, Nat.le_of_ble_eq_true rfl⟩ (fun p29 => ?_)
  exact s_lv (lc rfl ln) (pc12_goThrough_32 hG _ _ _)
def fc12_isIn (N : Nat) (x0 : Int64) (x2 : Int64) (x4 : Int64) (σ : Me) : Option (Int32 × Me) :=
  if (lg_cmp x0 x2) < 0 then
    retZ (0 : Int32) σ
  else
    if 0 < (lg_cmp x0 x4) then
      retZ (0 : Int32) σ
    else
      retZ (1 : Int32) σ
set_option maxRecDepth 20000 in
set_option maxHeartbeats 2000000 in
theorem corc12_isIn {Ω : Om} (N : Nat) (x0 : Int64) (x2 : Int64) (x4 : Int64) (σ : Me) : Cor Ω tc12_isIn 1 0 0 [vL x0, vL x2, vL x4] σ ιI (fc12_isIn N x0 x2 x4 σ) := by
  refine Cor.of (by decide +kernel) (Nat.le_of_ble_eq_true rfl) (fun Γ hG => ?_)
  unfold fc12_isIn
  show Sim Ω Γ 0 0 ιI 6 0 [(0, vL x0), (2, vL x2), (4, vL x4)] [] σ 0 0 _
  refine s_lload_n hG dc12_isIn_0 rfl ?_
  refine s_lload_n hG dc12_isIn_1 rfl ?_
  refine s_lcmp hG dc12_isIn_2 ?_
  refine s_if_lt hG 17 dc12_isIn_3 (by decide) ?_ ?_
  · refine s_iconst (v := 0) hG dc12_isIn_17 (by decide) ?_
    exact s_zret hG dc12_isIn_18 rfl (Nat.le_of_ble_eq_true rfl) (Nat.le_of_ble_eq_true rfl)
  · refine s_lload_n hG dc12_isIn_6 rfl ?_
    refine s_lload hG dc12_isIn_7 rfl ?_
    refine s_lcmp hG dc12_isIn_9 ?_
    refine s_if_gt hG 17 dc12_isIn_10 (by decide) ?_ ?_
    · refine s_iconst (v := 0) hG dc12_isIn_17 (by decide) ?_
      exact s_zret hG dc12_isIn_18 rfl (Nat.le_of_ble_eq_true rfl) (Nat.le_of_ble_eq_true rfl)
    · refine s_iconst (v := 1) hG dc12_isIn_13 (by decide) ?_
      refine s_goto hG 18 dc12_isIn_14 (by decide) ?_
      exact s_zret hG dc12_isIn_18 rfl (Nat.le_of_ble_eq_true rfl) (Nat.le_of_ble_eq_true rfl)
def fc12_has (N : Nat) (x0 : Int32) (x1 : Int32) (σ : Me) : Option (Int32 × Me) :=
  if ((x0 >>> (x1 &&& 31)) &&& (1 : Int32)) = (1 : Int32) then
    retZ (1 : Int32) σ
  else
    retZ (0 : Int32) σ
set_option maxRecDepth 20000 in
set_option maxHeartbeats 2000000 in
theorem corc12_has {Ω : Om} (N : Nat) (x0 : Int32) (x1 : Int32) (σ : Me) : Cor Ω tc12_has 1 0 0 [vI x0, vI x1] σ ιI (fc12_has N x0 x1 σ) := by
  refine Cor.of (by decide +kernel) (Nat.le_of_ble_eq_true rfl) (fun Γ hG => ?_)
  unfold fc12_has
  show Sim Ω Γ 0 0 ιI 2 0 [(0, vI x0), (1, vI x1)] [] σ 0 0 _
  refine s_iload_n hG dc12_has_0 rfl ?_
  refine s_iload_n hG dc12_has_1 rfl ?_
  refine s_ishr hG dc12_has_2 ?_
  refine s_iconst (v := 1) hG dc12_has_3 (by decide) ?_
  refine s_iand hG dc12_has_4 ?_
  refine s_iconst (v := 1) hG dc12_has_5 (by decide) ?_
  refine s_icmp_ne hG 13 dc12_has_6 (by decide) ?_ ?_
  · refine s_iconst (v := 0) hG dc12_has_13 (by decide) ?_
    exact s_zret hG dc12_has_14 rfl (Nat.le_of_ble_eq_true rfl) (Nat.le_of_ble_eq_true rfl)
  · refine s_iconst (v := 1) hG dc12_has_9 (by decide) ?_
    refine s_goto hG 14 dc12_has_10 (by decide) ?_
    exact s_zret hG dc12_has_14 rfl (Nat.le_of_ble_eq_true rfl) (Nat.le_of_ble_eq_true rfl)
def fc12_leastOf (N : Nat) (x0 : Int32) (x1 : Int32) (σ : Me) : Option (Int32 × Me) :=
  if x0 = (115 : Int32) then
    if x1 = (1 : Int32) then
      some ((1 : Int32), σ)
    else
      some ((0 : Int32), σ)
  else
    some ((0 : Int32), σ)
set_option maxRecDepth 20000 in
set_option maxHeartbeats 2000000 in
theorem corc12_leastOf {Ω : Om} (N : Nat) (x0 : Int32) (x1 : Int32) (σ : Me) : Cor Ω tc12_leastOf 1 0 0 [vI x0, vI x1] σ ιI (fc12_leastOf N x0 x1 σ) := by
  refine Cor.of (by decide +kernel) (Nat.le_of_ble_eq_true rfl) (fun Γ hG => ?_)
  unfold fc12_leastOf
  show Sim Ω Γ 0 0 ιI 2 0 [(0, vI x0), (1, vI x1)] [] σ 0 0 _
  refine s_iload_n hG dc12_leastOf_0 rfl ?_
  refine s_bipush (v := 115) hG dc12_leastOf_1 (by decide) ?_
  refine s_icmp_ne hG 15 dc12_leastOf_3 (by decide) ?_ ?_
  · refine s_iconst (v := 0) hG dc12_leastOf_15 (by decide) ?_
    exact s_iret hG dc12_leastOf_16 rfl (Nat.le_of_ble_eq_true rfl) (Nat.le_of_ble_eq_true rfl)
  · refine s_iload_n hG dc12_leastOf_6 rfl ?_
    refine s_iconst (v := 1) hG dc12_leastOf_7 (by decide) ?_
    refine s_icmp_ne hG 15 dc12_leastOf_8 (by decide) ?_ ?_
    · refine s_iconst (v := 0) hG dc12_leastOf_15 (by decide) ?_
      exact s_iret hG dc12_leastOf_16 rfl (Nat.le_of_ble_eq_true rfl) (Nat.le_of_ble_eq_true rfl)
    · refine s_iconst (v := 1) hG dc12_leastOf_11 (by decide) ?_
      refine s_goto hG 16 dc12_leastOf_12 (by decide) ?_
      exact s_iret hG dc12_leastOf_16 rfl (Nat.le_of_ble_eq_true rfl) (Nat.le_of_ble_eq_true rfl)
def fc12_mostOf (N : Nat) (x0 : Int32) (x1 : Int32) (σ : Me) : Option (Int32 × Me) :=
  if x0 = (115 : Int32) then
    if x1 = 0 then
      some ((9 : Int32), σ)
    else
      if x1 = (1 : Int32) then
        some ((99 : Int32), σ)
      else
        some ((30 : Int32), σ)
  else
    if x1 = (1 : Int32) then
      some ((20 : Int32), σ)
    else
      if x1 = (2 : Int32) then
        some ((30 : Int32), σ)
      else
        if x1 = (3 : Int32) then
          some ((9 : Int32), σ)
        else
          some ((99 : Int32), σ)
set_option maxRecDepth 20000 in
set_option maxHeartbeats 2000000 in
theorem corc12_mostOf {Ω : Om} (N : Nat) (x0 : Int32) (x1 : Int32) (σ : Me) : Cor Ω tc12_mostOf 1 0 0 [vI x0, vI x1] σ ιI (fc12_mostOf N x0 x1 σ) := by
  refine Cor.of (by decide +kernel) (Nat.le_of_ble_eq_true rfl) (fun Γ hG => ?_)
  unfold fc12_mostOf
  show Sim Ω Γ 0 0 ιI 2 0 [(0, vI x0), (1, vI x1)] [] σ 0 0 _
  refine s_iload_n hG dc12_mostOf_0 rfl ?_
  refine s_bipush (v := 115) hG dc12_mostOf_1 (by decide) ?_
  refine s_icmp_ne hG 28 dc12_mostOf_3 (by decide) ?_ ?_
  · refine s_iload_n hG dc12_mostOf_28 rfl ?_
    refine s_iconst (v := 1) hG dc12_mostOf_29 (by decide) ?_
    refine s_icmp_ne hG 38 dc12_mostOf_30 (by decide) ?_ ?_
    · refine s_iload_n hG dc12_mostOf_38 rfl ?_
      refine s_iconst (v := 2) hG dc12_mostOf_39 (by decide) ?_
      refine s_icmp_ne hG 48 dc12_mostOf_40 (by decide) ?_ ?_
      · refine s_iload_n hG dc12_mostOf_48 rfl ?_
        refine s_iconst (v := 3) hG dc12_mostOf_49 (by decide) ?_
        refine s_icmp_ne hG 58 dc12_mostOf_50 (by decide) ?_ ?_
        · refine s_bipush (v := 99) hG dc12_mostOf_58 (by decide) ?_
          exact s_iret hG dc12_mostOf_60 rfl (Nat.le_of_ble_eq_true rfl) (Nat.le_of_ble_eq_true rfl)
        · refine s_bipush (v := 9) hG dc12_mostOf_53 (by decide) ?_
          refine s_goto hG 60 dc12_mostOf_55 (by decide) ?_
          exact s_iret hG dc12_mostOf_60 rfl (Nat.le_of_ble_eq_true rfl) (Nat.le_of_ble_eq_true rfl)
      · refine s_bipush (v := 30) hG dc12_mostOf_43 (by decide) ?_
        refine s_goto hG 60 dc12_mostOf_45 (by decide) ?_
        exact s_iret hG dc12_mostOf_60 rfl (Nat.le_of_ble_eq_true rfl) (Nat.le_of_ble_eq_true rfl)
    · refine s_bipush (v := 20) hG dc12_mostOf_33 (by decide) ?_
      refine s_goto hG 60 dc12_mostOf_35 (by decide) ?_
      exact s_iret hG dc12_mostOf_60 rfl (Nat.le_of_ble_eq_true rfl) (Nat.le_of_ble_eq_true rfl)
  · refine s_iload_n hG dc12_mostOf_6 rfl ?_
    refine s_if_ne hG 15 dc12_mostOf_7 (by decide) ?_ ?_
    · refine s_iload_n hG dc12_mostOf_15 rfl ?_
      refine s_iconst (v := 1) hG dc12_mostOf_16 (by decide) ?_
      refine s_icmp_ne hG 25 dc12_mostOf_17 (by decide) ?_ ?_
      · refine s_bipush (v := 30) hG dc12_mostOf_25 (by decide) ?_
        exact s_iret hG dc12_mostOf_27 rfl (Nat.le_of_ble_eq_true rfl) (Nat.le_of_ble_eq_true rfl)
      · refine s_bipush (v := 99) hG dc12_mostOf_20 (by decide) ?_
        refine s_goto hG 27 dc12_mostOf_22 (by decide) ?_
        exact s_iret hG dc12_mostOf_27 rfl (Nat.le_of_ble_eq_true rfl) (Nat.le_of_ble_eq_true rfl)
    · refine s_bipush (v := 9) hG dc12_mostOf_10 (by decide) ?_
      refine s_goto hG 27 dc12_mostOf_12 (by decide) ?_
      exact s_iret hG dc12_mostOf_27 rfl (Nat.le_of_ble_eq_true rfl) (Nat.le_of_ble_eq_true rfl)
def fc12_here (N : Nat) (a0 : Nat) (σ : Me) : Option (Int32 × Me) :=
  (qI σ 12 10 (some a0)).bind fun v1 =>
  (qI σ 12 9 (some a0)).bind fun v5 =>
  if v5 ≤ v1 then
    some ((-1 : Int32), σ)
  else
    (qR σ 12 5 (some a0)).bind fun v12 =>
    (qI σ 12 8 (some a0)).bind fun v16 =>
    (qI σ 12 10 (some a0)).bind fun v20 =>
    (ldB σ v12 (v16 + v20)).bind fun v24 =>
    some ((v24 &&& (255 : Int32)), σ)
set_option maxRecDepth 20000 in
set_option maxHeartbeats 2000000 in
theorem corc12_here {Ω : Om} (N : Nat) (a0 : Nat) (σ : Me) : Cor Ω tc12_here 1 0 0 [vR (some a0)] σ ιI (fc12_here N a0 σ) := by
  refine Cor.of (by decide +kernel) (Nat.le_of_ble_eq_true rfl) (fun Γ hG => ?_)
  unfold fc12_here
  show Sim Ω Γ 0 0 ιI 1 0 [(0, vR (some a0))] [] σ 0 0 _
  refine s_aload_n hG dc12_here_0 rfl ?_
  refine s_getI hG kFc12_123 rfl dc12_here_1 (fun v1 => ?_)
  refine s_aload_n hG dc12_here_4 rfl ?_
  refine s_getI hG kFc12_126 rfl dc12_here_5 (fun v5 => ?_)
  refine s_icmp_ge hG 32 dc12_here_8 (by decide) ?_ ?_
  · refine s_iconst (v := -1) hG dc12_here_32 (by decide) ?_
    exact s_iret hG dc12_here_33 rfl (Nat.le_of_ble_eq_true rfl) (Nat.le_of_ble_eq_true rfl)
  · refine s_aload_n hG dc12_here_11 rfl ?_
    refine s_getR hG kFc12_23 rfl dc12_here_12 (fun v12 => ?_)
    refine s_aload_n hG dc12_here_15 rfl ?_
    refine s_getI hG kFc12_129 rfl dc12_here_16 (fun v16 => ?_)
    refine s_aload_n hG dc12_here_19 rfl ?_
    refine s_getI hG kFc12_123 rfl dc12_here_20 (fun v20 => ?_)
    refine s_iadd hG dc12_here_23 ?_
    refine s_bald hG dc12_here_24 (fun v24 => ?_)
    refine s_sipush (v := 255) hG dc12_here_25 (by decide) ?_
    refine s_iand hG dc12_here_28 ?_
    refine s_goto hG 33 dc12_here_29 (by decide) ?_
    exact s_iret hG dc12_here_33 rfl (Nat.le_of_ble_eq_true rfl) (Nat.le_of_ble_eq_true rfl)
def fc12_number_67 (N : Nat) (l0 : Option Nat) (l1 : Int32) (l2 : Int32) (l4 : Int32) (σ : Me) : Option (Int32 × Me) :=
  (dr σ l0 (.inl 12)).bind fun a =>
  (fc12_isDigit N a σ).bind fun p68 =>
  if p68.1 = 0 then
    (fc12_isIn N (Int32.toInt64 l4) (Int32.toInt64 l1) (Int32.toInt64 l2) p68.2).bind fun p88 =>
    if p88.1 = 0 then
      (qI p88.2 12 10 l0).bind fun v96 =>
      (pI p88.2 12 10 l0 (v96 - (1 : Int32))).bind fun σ101 =>
      (dr σ101 l0 (.inl 12)).bind fun a =>
      (fc12_fails N a σ101).bind fun p105 =>
      some (l4, p105.2)
    else
      some (l4, p88.2)
  else
    (dr p68.2 l0 (.inl 12)).bind fun a =>
    (fc12_fails N a p68.2).bind fun p75 =>
    some ((0 : Int32), p75.2)
def fc12_number (N : Nat) (a0 : Nat) (x1 : Int32) (x2 : Int32) (σ : Me) : Option (Int32 × Me) :=
  (dr σ (some a0) (.inl 12)).bind fun a =>
  (fc12_look N a σ).bind fun p1 =>
  (dr p1.2 (some a0) (.inl 12)).bind fun a =>
  (fc12_isDigit N a p1.2).bind fun p6 =>
  if p6.1 = 0 then
    (dr p6.2 (some a0) (.inl 12)).bind fun a =>
    (fc12_fails N a p6.2).bind fun p13 =>
    some ((0 : Int32), p13.2)
  else
    (qI p6.2 12 10 (some a0)).bind fun v27 =>
    (pI p6.2 12 10 (some a0) (v27 + (1 : Int32))).bind fun σ32 =>
    (dr σ32 (some a0) (.inl 12)).bind fun a =>
    (fc12_isDigit N a σ32).bind fun p36 =>
    if p36.1 = 0 then
      fc12_number_67 N (some a0) x1 x2 (p1.1 - (48 : Int32)) p36.2
    else
      (dr p36.2 (some a0) (.inl 12)).bind fun a =>
      (fc12_here N a p36.2).bind fun p48 =>
      (qI p48.2 12 10 (some a0)).bind fun v59 =>
      (pI p48.2 12 10 (some a0) (v59 + (1 : Int32))).bind fun σ64 =>
      fc12_number_67 N (some a0) x1 x2 ((((10 : Int32) * (p1.1 - (48 : Int32))) + p48.1) - (48 : Int32)) σ64
set_option maxRecDepth 20000 in
set_option maxHeartbeats 2000000 in
theorem pc12_number_67 {Ω : Om} {Γ : Ga} {N : Nat} (hG : Good Ω Γ tc12_number 2 0 0) (l0 : Option Nat) (l1 : Int32) (l2 : Int32) (l4 : Int32) (σ : Me) : Sim Ω Γ 0 0 ιI 5 67 [(0, vR l0), (1, vI l1), (2, vI l2), (4, vI l4)] [] σ 0 0 (fc12_number_67 N l0 l1 l2 l4 σ) := by
  unfold fc12_number_67
  refine s_aload_n hG dc12_number_67 rfl ?_
  refine s_callVi hG kMc12_172 (fun a => corc12_isDigit N a _) ⟨by decide, rfl⟩ rfl (by first | decide | omega) dc12_number_68 rfl rfl (Nat.le_of_ble_eq_true rfl) ⟨Nat.le_of_ble_eq_true rfl, Nat.le_of_ble_eq_true rfl⟩ (fun p68 => ?_)
  refine s_if_eq hG 81 dc12_number_71 (by decide) ?_ ?_
  · refine s_iload hG dc12_number_81 rfl ?_
    refine s_i2l hG dc12_number_83 ?_
    refine s_iload_n hG dc12_number_84 rfl ?_
    refine s_i2l hG dc12_number_85 ?_
    refine s_iload_n hG dc12_number_86 rfl ?_
    refine s_i2l hG dc12_number_87 ?_
    refine s_callSi hG kMc12_221 (corc12_isIn N _ _ _ _) rfl (by first | decide | omega) dc12_number_88 rfl rfl (Nat.le_of_ble_eq_true rfl) ⟨Nat.le_of_ble_eq_true rfl, Nat.le_of_ble_eq_true rfl⟩ (fun p88 => ?_)
    refine s_if_ne hG 109 dc12_number_91 (by decide) ?_ ?_
    · refine s_iload hG dc12_number_109 rfl ?_
      exact s_iret hG dc12_number_111 rfl (Nat.le_of_ble_eq_true rfl) (Nat.le_of_ble_eq_true rfl)
    · refine s_aload_n hG dc12_number_94 rfl ?_
      refine s_dup hG dc12_number_95 rfl ?_
      refine s_getI hG kFc12_123 rfl dc12_number_96 (fun v96 => ?_)
      refine s_iconst (v := 1) hG dc12_number_99 (by decide) ?_
      refine s_isub hG dc12_number_100 ?_
      refine s_putI (fin := false) hG kFc12_123 rfl (fun h => by cases h) rfl (fun _ => rfl) (fun _ => rfl) dc12_number_101 (fun σ101 => ?_)
      refine s_aload_n hG dc12_number_104 rfl ?_
      refine s_callVi hG kMc12_138 (fun a => corc12_fails N a _) ⟨by decide, rfl⟩ rfl (by first | decide | omega) dc12_number_105 rfl rfl (Nat.le_of_ble_eq_true rfl) ⟨Nat.le_of_ble_eq_true rfl, Nat.le_of_ble_eq_true rfl⟩ (fun p105 => ?_)
      refine s_pop hG dc12_number_108 rfl ?_
      refine s_iload hG dc12_number_109 rfl ?_
      exact s_iret hG dc12_number_111 rfl (Nat.le_of_ble_eq_true rfl) (Nat.le_of_ble_eq_true rfl)
  · refine s_aload_n hG dc12_number_74 rfl ?_
    refine s_callVi hG kMc12_138 (fun a => corc12_fails N a _) ⟨by decide, rfl⟩ rfl (by first | decide | omega) dc12_number_75 rfl rfl (Nat.le_of_ble_eq_true rfl) ⟨Nat.le_of_ble_eq_true rfl, Nat.le_of_ble_eq_true rfl⟩ (fun p75 => ?_)
    refine s_pop hG dc12_number_78 rfl ?_
    refine s_iconst (v := 0) hG dc12_number_79 (by decide) ?_
    exact s_iret hG dc12_number_80 rfl (Nat.le_of_ble_eq_true rfl) (Nat.le_of_ble_eq_true rfl)
set_option maxRecDepth 20000 in
set_option maxHeartbeats 2000000 in
theorem corc12_number {Ω : Om} (N : Nat) (a0 : Nat) (x1 : Int32) (x2 : Int32) (σ : Me) : Cor Ω tc12_number 2 0 0 [vR (some a0), vI x1, vI x2] σ ιI (fc12_number N a0 x1 x2 σ) := by
  refine Cor.of (by decide +kernel) (Nat.le_of_ble_eq_true rfl) (fun Γ hG => ?_)
  unfold fc12_number
  show Sim Ω Γ 0 0 ιI 5 0 [(0, vR (some a0)), (1, vI x1), (2, vI x2)] [] σ 0 0 _
  refine s_aload_n hG dc12_number_0 rfl ?_
  refine s_callVi hG kMc12_142 (fun a => corc12_look N a _) ⟨by decide, rfl⟩ rfl (by first | decide | omega) dc12_number_1 rfl rfl (Nat.le_of_ble_eq_true rfl) ⟨Nat.le_of_ble_eq_true rfl, Nat.le_of_ble_eq_true rfl⟩ (fun p1 => ?_)
  refine s_istore_n hG dc12_number_4 (by decide) ?_
  refine s_aload_n hG dc12_number_5 rfl ?_
  refine s_callVi hG kMc12_172 (fun a => corc12_isDigit N a _) ⟨by decide, rfl⟩ rfl (by first | decide | omega) dc12_number_6 rfl rfl (Nat.le_of_ble_eq_true rfl) ⟨Nat.le_of_ble_eq_true rfl, Nat.le_of_ble_eq_true rfl⟩ (fun p6 => ?_)
  refine s_if_ne hG 19 dc12_number_9 (by decide) ?_ ?_
  · refine s_iload_n hG dc12_number_19 rfl ?_
    refine s_bipush (v := 48) hG dc12_number_20 (by decide) ?_
    refine s_isub hG dc12_number_22 ?_
    refine s_istore hG dc12_number_23 (by decide) ?_
    refine s_aload_n hG dc12_number_25 rfl ?_
    refine s_dup hG dc12_number_26 rfl ?_
    refine s_getI hG kFc12_123 rfl dc12_number_27 (fun v27 => ?_)
    refine s_iconst (v := 1) hG dc12_number_30 (by decide) ?_
    refine s_iadd hG dc12_number_31 ?_
    refine s_putI (fin := false) hG kFc12_123 rfl (fun h => by cases h) rfl (fun _ => rfl) (fun _ => rfl) dc12_number_32 (fun σ32 => ?_)
    refine s_aload_n hG dc12_number_35 rfl ?_
    refine s_callVi hG kMc12_172 (fun a => corc12_isDigit N a _) ⟨by decide, rfl⟩ rfl (by first | decide | omega) dc12_number_36 rfl rfl (Nat.le_of_ble_eq_true rfl) ⟨Nat.le_of_ble_eq_true rfl, Nat.le_of_ble_eq_true rfl⟩ (fun p36 => ?_)
    refine s_if_eq hG 67 dc12_number_39 (by decide) ?_ ?_
    · exact s_lv (lc rfl (lc rfl (lc rfl (lc rfl ln)))) (pc12_number_67 hG _ _ _ _ _)
    · refine s_bipush (v := 10) hG dc12_number_42 (by decide) ?_
      refine s_iload hG dc12_number_44 rfl ?_
      refine s_imul hG dc12_number_46 ?_
      refine s_aload_n hG dc12_number_47 rfl ?_
      refine s_callVi hG kMc12_218 (fun a => corc12_here N a _) ⟨by decide, rfl⟩ rfl (by first | decide | omega) dc12_number_48 rfl rfl (Nat.le_of_ble_eq_true rfl) ⟨Nat.le_of_ble_eq_true rfl, Nat.le_of_ble_eq_true rfl⟩ (fun p48 => ?_)
      refine s_iadd hG dc12_number_51 ?_
      refine s_bipush (v := 48) hG dc12_number_52 (by decide) ?_
      refine s_isub hG dc12_number_54 ?_
      refine s_istore hG dc12_number_55 (by decide) ?_
      refine s_aload_n hG dc12_number_57 rfl ?_
      refine s_dup hG dc12_number_58 rfl ?_
      refine s_getI hG kFc12_123 rfl dc12_number_59 (fun v59 => ?_)
      refine s_iconst (v := 1) hG dc12_number_62 (by decide) ?_
      refine s_iadd hG dc12_number_63 ?_
      refine s_putI (fin := false) hG kFc12_123 rfl (fun h => by cases h) rfl (fun _ => rfl) (fun _ => rfl) dc12_number_64 (fun σ64 => ?_)
      exact s_lv (lc rfl (lc rfl (lc rfl (lc rfl ln)))) (pc12_number_67 hG _ _ _ _ _)
  · refine s_aload_n hG dc12_number_12 rfl ?_
    refine s_callVi hG kMc12_138 (fun a => corc12_fails N a _) ⟨by decide, rfl⟩ rfl (by first | decide | omega) dc12_number_13 rfl rfl (Nat.le_of_ble_eq_true rfl) ⟨Nat.le_of_ble_eq_true rfl, Nat.le_of_ble_eq_true rfl⟩ (fun p13 => ?_)
    refine s_pop hG dc12_number_16 rfl ?_
    refine s_iconst (v := 0) hG dc12_number_17 (by decide) ?_
    exact s_iret hG dc12_number_18 rfl (Nat.le_of_ble_eq_true rfl) (Nat.le_of_ble_eq_true rfl)
