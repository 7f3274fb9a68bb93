def fc8_read_32 (N : Nat) (K10 : Option Nat → Int32 → Me → Option (Int32 × Me)) (l0 : Option Nat) (l1 : Int32) (σ : Me) : Option (Int32 × Me) :=
  (dr σ l0 (.inl 8)).bind fun a =>
  (fc8_readStep N a l1 σ).bind fun p34 =>
  if p34.1 = 0 then
    retZ (0 : Int32) p34.2
  else
    (qR p34.2 8 0 l0).bind fun v43 =>
    (dr p34.2 v43 (.inl 10)).bind fun a =>
    (fc10_next N a p34.2).bind fun p46 =>
    if p46.1 = 0 then
      (pI p46.2 8 4 l0 (l1 + (1 : Int32))).bind fun σ56 =>
      retZ (1 : Int32) σ56
    else
      K10 l0 (l1 + (1 : Int32)) p46.2
def fc8_read_10 (N : Nat) : Nat → Option Nat → Int32 → Me → Option (Int32 × Me)
  | 0, _, _, _ => none
  | n + 1, l0, l1, σ =>
    if (16 : Int32) ≤ l1 then
      retZ (0 : Int32) σ
    else
      if l1 ≤ 0 then
        fc8_read_32 N (fc8_read_10 N n) l0 l1 σ
      else
        (qR σ 8 0 l0).bind fun v21 =>
        (dr σ v21 (.inl 10)).bind fun a =>
        (fc10_take N a (59 : Int32) σ).bind fun p26 =>
        if p26.1 = 0 then
          retZ (0 : Int32) p26.2
        else
          fc8_read_32 N (fc8_read_10 N n) l0 l1 p26.2
def fc8_read (N : Nat) (a0 : Nat) (σ : Me) : Option (Int32 × Me) :=
  (qR σ 8 0 (some a0)).bind fun v1 =>
  (pI σ 10 2 v1 (0 : Int32)).bind fun σ5 =>
  fc8_read_10 N N (some a0) (0 : Int32) σ5
set_option maxRecDepth 20000 in
set_option maxHeartbeats 2000000 in
theorem pc8_read_32 {Ω : Om} {Γ : Ga} {N : Nat} (hG : Good Ω Γ tc8_read 6 0 0) {K10 : Option Nat → Int32 → Me → Option (Int32 × Me)} (hK10 : ∀ (l0 : Option Nat) (l1 : Int32) (σ : Me), Sim Ω Γ 0 0 ιI 2 10 [(0, vR l0), (1, vI l1)] [] σ 0 0 (K10 l0 l1 σ)) (l0 : Option Nat) (l1 : Int32) (σ : Me) : Sim Ω Γ 0 0 ιI 2 32 [(0, vR l0), (1, vI l1)] [] σ 0 0 (fc8_read_32 N K10 l0 l1 σ) := by
  unfold fc8_read_32
  refine s_aload_n hG dc8_read_32 rfl ?_
  refine s_iload_n hG dc8_read_33 rfl ?_
  refine s_callVi hG kMc8_43 (fun a => corc8_readStep N a _ _) ⟨by decide, rfl⟩ rfl (by first | decide | omega) dc8_read_34 rfl rfl (Nat.le_of_ble_eq_true rfl) ⟨Nat.le_of_ble_eq_true rfl, Nat.le_of_ble_eq_true rfl⟩ (fun p34 => ?_)
  refine s_if_ne hG 42 dc8_read_37 (by decide) ?_ ?_
  · refine s_aload_n hG dc8_read_42 rfl ?_
    refine s_getR hG kFc8_23 rfl dc8_read_43 (fun v43 => ?_)
    refine s_callVi hG kMc8_46 (fun a => corc10_next N a _) ⟨by decide, rfl⟩ rfl (by first | decide | omega) dc8_read_46 rfl rfl (Nat.le_of_ble_eq_true rfl) ⟨Nat.le_of_ble_eq_true rfl, Nat.le_of_ble_eq_true rfl⟩ (fun p46 => ?_)
    refine s_if_ne hG 61 dc8_read_49 (by decide) ?_ ?_
    · refine s_iinc (v := 1) hG dc8_read_61 rfl (by decide) (by decide) ?_
      refine s_goto hG 10 dc8_read_64 (by decide) ?_
      exact s_lv (lc rfl (lc rfl ln)) (hK10 _ _ _)
    · refine s_aload_n hG dc8_read_52 rfl ?_
      refine s_iload_n hG dc8_read_53 rfl ?_
      refine s_iconst (v := 1) hG dc8_read_54 (by decide) ?_
      refine s_iadd hG dc8_read_55 ?_
      refine s_putI (fin := false) hG kFc8_27 rfl (fun h => by cases h) rfl (fun _ => rfl) (fun _ => rfl) dc8_read_56 (fun σ56 => ?_)
      refine s_iconst (v := 1) hG dc8_read_59 (by decide) ?_
      exact s_zret hG dc8_read_60 rfl (Nat.le_of_ble_eq_true rfl) (Nat.le_of_ble_eq_true rfl)
  · refine s_iconst (v := 0) hG dc8_read_40 (by decide) ?_
    exact s_zret hG dc8_read_41 rfl (Nat.le_of_ble_eq_true rfl) (Nat.le_of_ble_eq_true rfl)
set_option maxRecDepth 20000 in
set_option maxHeartbeats 2000000 in
theorem pc8_read_10 {Ω : Om} {Γ : Ga} {N : Nat} (hG : Good Ω Γ tc8_read 6 0 0)  : ∀ (n : Nat) (l0 : Option Nat) (l1 : Int32) (σ : Me), Sim Ω Γ 0 0 ιI 2 10 [(0, vR l0), (1, vI l1)] [] σ 0 0 (fc8_read_10 N n l0 l1 σ) := by
  intro n
  induction n with
  | zero => intros; exact s_none
  | succ n ih =>
    intro l0 l1 σ
    unfold fc8_read_10
    refine s_iload_n hG dc8_read_10 rfl ?_
    refine s_bipush (v := 16) hG dc8_read_11 (by decide) ?_
    refine s_icmp_ge hG 67 dc8_read_13 (by decide) ?_ ?_
    · refine s_iconst (v := 0) hG dc8_read_67 (by decide) ?_
      exact s_zret hG dc8_read_68 rfl (Nat.le_of_ble_eq_true rfl) (Nat.le_of_ble_eq_true rfl)
    · refine s_iload_n hG dc8_read_16 rfl ?_
      refine s_if_le hG 32 dc8_read_17 (by decide) ?_ ?_
      · exact s_lv (lc rfl (lc rfl ln)) (pc8_read_32 hG ih _ _ _)
      · refine s_aload_n hG dc8_read_20 rfl ?_
        refine s_getR hG kFc8_23 rfl dc8_read_21 (fun v21 => ?_)
        refine s_bipush (v := 59) hG dc8_read_24 (by decide) ?_
        refine s_callVi hG kMc8_39 (fun a => corc10_take N a _ _) ⟨by decide, rfl⟩ rfl (by first | decide | omega) dc8_read_26 rfl rfl (Nat.le_of_ble_eq_true rfl) ⟨Nat.le_of_ble_eq_true rfl, Nat.le_of_ble_eq_true rfl⟩ (fun p26 => ?_)
        refine s_if_eq hG 40 dc8_read_29 (by decide) ?_ ?_
        · refine s_iconst (v := 0) hG dc8_read_40 (by decide) ?_
          exact s_zret hG dc8_read_41 rfl (Nat.le_of_ble_eq_true rfl) (Nat.le_of_ble_eq_true rfl)
        · exact s_lv (lc rfl (lc rfl ln)) (pc8_read_32 hG ih _ _ _)
set_option maxRecDepth 20000 in
set_option maxHeartbeats 2000000 in
theorem corc8_read {Ω : Om} (N : Nat) (a0 : Nat) (σ : Me) : Cor Ω tc8_read 6 0 0 [vR (some a0)] σ ιI (fc8_read N a0 σ) := by
  refine Cor.of (by decide +kernel) (Nat.le_of_ble_eq_true rfl) (fun Γ hG => ?_)
  unfold fc8_read
  show Sim Ω Γ 0 0 ιI 2 0 [(0, vR (some a0))] [] σ 0 0 _
  refine s_aload_n hG dc8_read_0 rfl ?_
  refine s_getR hG kFc8_23 rfl dc8_read_1 (fun v1 => ?_)
  refine s_iconst (v := 0) hG dc8_read_4 (by decide) ?_
  refine s_putI (fin := false) hG kFc8_34 rfl (fun h => by cases h) rfl (fun _ => rfl) (fun _ => rfl) dc8_read_5 (fun σ5 => ?_)
  refine s_iconst (v := 0) hG dc8_read_8 (by decide) ?_
  refine s_istore_n hG dc8_read_9 (by decide) ?_
  exact s_lv (lc rfl (lc rfl ln)) (pc8_read_10 hG _ _ _ _)
def fc11_reads (N : Nat) (a0 : Nat) (x1 : Int32) (σ : Me) : Option (Int32 × Me) :=
  if x1 = 0 then
    (qR σ 11 1 (some a0)).bind fun v5 =>
    (dr σ v5 (.inl 6)).bind fun a =>
    (fc6_read N a σ).bind fun p8 =>
    retZ p8.1 p8.2
  else
    if x1 = (1 : Int32) then
      (qR σ 11 2 (some a0)).bind fun v20 =>
      (dr σ v20 (.inl 4)).bind fun a =>
      (fc4_read N a σ).bind fun p23 =>
      retZ p23.1 p23.2
    else
      (qR σ 11 3 (some a0)).bind fun v30 =>
      (dr σ v30 (.inl 8)).bind fun a =>
      (fc8_read N a σ).bind fun p33 =>
      retZ p33.1 p33.2
set_option maxRecDepth 20000 in
set_option maxHeartbeats 2000000 in
theorem corc11_reads {Ω : Om} (N : Nat) (a0 : Nat) (x1 : Int32) (σ : Me) : Cor Ω tc11_reads 137 0 0 [vR (some a0), vI x1] σ ιI (fc11_reads N a0 x1 σ) := by
  refine Cor.of (by decide +kernel) (Nat.le_of_ble_eq_true rfl) (fun Γ hG => ?_)
  unfold fc11_reads
  show Sim Ω Γ 0 0 ιI 2 0 [(0, vR (some a0)), (1, vI x1)] [] σ 0 0 _
  refine s_iload_n hG dc11_reads_0 rfl ?_
  refine s_if_ne hG 14 dc11_reads_1 (by decide) ?_ ?_
  · refine s_iload_n hG dc11_reads_14 rfl ?_
    refine s_iconst (v := 1) hG dc11_reads_15 (by decide) ?_
    refine s_icmp_ne hG 29 dc11_reads_16 (by decide) ?_ ?_
    · refine s_aload_n hG dc11_reads_29 rfl ?_
      refine s_getR hG kFc11_35 rfl dc11_reads_30 (fun v30 => ?_)
      refine s_callVi hG kMc11_136 (fun a => corc8_read N a _) ⟨by decide, rfl⟩ rfl (by first | decide | omega) dc11_reads_33 rfl rfl (Nat.le_of_ble_eq_true rfl) ⟨Nat.le_of_ble_eq_true rfl, Nat.le_of_ble_eq_true rfl⟩ (fun p33 => ?_)
      exact s_zret hG dc11_reads_36 rfl (Nat.le_of_ble_eq_true rfl) (Nat.le_of_ble_eq_true rfl)
    · refine s_aload_n hG dc11_reads_19 rfl ?_
      refine s_getR hG kFc11_28 rfl dc11_reads_20 (fun v20 => ?_)
      refine s_callVi hG kMc11_135 (fun a => corc4_read N a _) ⟨by decide, rfl⟩ rfl (by first | decide | omega) dc11_reads_23 rfl rfl (Nat.le_of_ble_eq_true rfl) ⟨Nat.le_of_ble_eq_true rfl, Nat.le_of_ble_eq_true rfl⟩ (fun p23 => ?_)
      refine s_goto hG 36 dc11_reads_26 (by decide) ?_
      exact s_zret hG dc11_reads_36 rfl (Nat.le_of_ble_eq_true rfl) (Nat.le_of_ble_eq_true rfl)
  · refine s_aload_n hG dc11_reads_4 rfl ?_
    refine s_getR hG kFc11_21 rfl dc11_reads_5 (fun v5 => ?_)
    refine s_callVi hG kMc11_131 (fun a => corc6_read N a _) ⟨by decide, rfl⟩ rfl (by first | decide | omega) dc11_reads_8 rfl rfl (Nat.le_of_ble_eq_true rfl) ⟨Nat.le_of_ble_eq_true rfl, Nat.le_of_ble_eq_true rfl⟩ (fun p8 => ?_)
    refine s_goto hG 36 dc11_reads_11 (by decide) ?_
    exact s_zret hG dc11_reads_36 rfl (Nat.le_of_ble_eq_true rfl) (Nat.le_of_ble_eq_true rfl)
def fc11_fault (N : Nat) (a0 : Nat) (x1 : Int32) (σ : Me) : Option (Int32 × Me) :=
  if x1 < 0 then
    some ((-2 : Int32), σ)
  else
    if x1 ≤ (2 : Int32) then
      (dr σ (some a0) (.inl 11)).bind fun a =>
      (fc11_reads N a x1 σ).bind fun p14 =>
      if p14.1 = 0 then
        (qR p14.2 11 0 (some a0)).bind fun v25 =>
        (qI p14.2 10 2 v25).bind fun v28 =>
        some (v28, p14.2)
      else
        some ((-1 : Int32), p14.2)
    else
      some ((-2 : Int32), σ)
set_option maxRecDepth 20000 in
set_option maxHeartbeats 2000000 in
theorem corc11_fault {Ω : Om} (N : Nat) (a0 : Nat) (x1 : Int32) (σ : Me) : Cor Ω tc11_fault 138 0 0 [vR (some a0), vI x1] σ ιI (fc11_fault N a0 x1 σ) := by
  refine Cor.of (by decide +kernel) (Nat.le_of_ble_eq_true rfl) (fun Γ hG => ?_)
  unfold fc11_fault
  show Sim Ω Γ 0 0 ιI 2 0 [(0, vR (some a0)), (1, vI x1)] [] σ 0 0 _
  refine s_iload_n hG dc11_fault_0 rfl ?_
  refine s_if_lt hG 9 dc11_fault_1 (by decide) ?_ ?_
  · refine s_bipush (v := -2) hG dc11_fault_9 (by decide) ?_
    exact s_iret hG dc11_fault_11 rfl (Nat.le_of_ble_eq_true rfl) (Nat.le_of_ble_eq_true rfl)
  · refine s_iload_n hG dc11_fault_4 rfl ?_
    refine s_iconst (v := 2) hG dc11_fault_5 (by decide) ?_
    refine s_icmp_le hG 12 dc11_fault_6 (by decide) ?_ ?_
    · refine s_aload_n hG dc11_fault_12 rfl ?_
      refine s_iload_n hG dc11_fault_13 rfl ?_
      refine s_callVi hG kMc11_114 (fun a => corc11_reads N a _ _) ⟨by decide, rfl⟩ rfl (by first | decide | omega) dc11_fault_14 rfl rfl (Nat.le_of_ble_eq_true rfl) ⟨Nat.le_of_ble_eq_true rfl, Nat.le_of_ble_eq_true rfl⟩ (fun p14 => ?_)
      refine s_if_eq hG 24 dc11_fault_17 (by decide) ?_ ?_
      · refine s_aload_n hG dc11_fault_24 rfl ?_
        refine s_getR hG kFc11_10 rfl dc11_fault_25 (fun v25 => ?_)
        refine s_getI hG kFc11_118 rfl dc11_fault_28 (fun v28 => ?_)
        exact s_iret hG dc11_fault_31 rfl (Nat.le_of_ble_eq_true rfl) (Nat.le_of_ble_eq_true rfl)
      · refine s_iconst (v := -1) hG dc11_fault_20 (by decide) ?_
        refine s_goto hG 31 dc11_fault_21 (by decide) ?_
        exact s_iret hG dc11_fault_31 rfl (Nat.le_of_ble_eq_true rfl) (Nat.le_of_ble_eq_true rfl)
    · refine s_bipush (v := -2) hG dc11_fault_9 (by decide) ?_
      exact s_iret hG dc11_fault_11 rfl (Nat.le_of_ble_eq_true rfl) (Nat.le_of_ble_eq_true rfl)
def fAr_copyOf (N : Nat) (x0 : Option Nat) (x1 : Int32) (σ : Me) : Option (Option Nat × Me) :=
  (aLn σ .int x0).bind fun v2 =>
  if x1 = v2 then
    (clA σ x0 1000).bind fun p7 =>
    some ((some p7.1), p7.2)
  else
    (newA σ .int x1 1000).bind fun p15 =>
    (aLn p15.2 .int x0).bind fun v23 =>
    (fMt_min N v23 x1 p15.2).bind fun p25 =>
    (cpI p25.2 x0 (0 : Int32) (some p15.1) (0 : Int32) p25.1).bind fun σ28 =>
    some ((some p15.1), σ28)
set_option maxRecDepth 20000 in
set_option maxHeartbeats 2000000 in
theorem corAr_copyOf {Ω : Om} (N : Nat) (x0 : Option Nat) (x1 : Int32) (σ : Me) : Cor Ω tAr_copyOf 2 1 1000 [vR x0, vI x1] σ ιR (fAr_copyOf N x0 x1 σ) := by
  refine Cor.of (by decide +kernel) (Nat.le_of_ble_eq_true rfl) (fun Γ hG => ?_)
  unfold fAr_copyOf
  show Sim Ω Γ 1 1000 ιR 3 0 [(0, vR x0), (1, vI x1)] [] σ 0 0 _
  refine s_iload_n hG dAr_copyOf_0 rfl ?_
  refine s_aload_n hG dAr_copyOf_1 rfl ?_
  refine s_alen hG 0 rfl dAr_copyOf_2 (fun v2 => ?_)
  refine s_icmp_ne hG 14 dAr_copyOf_3 (by decide) ?_ ?_
  · refine s_iload_n hG dAr_copyOf_14 rfl ?_
    refine s_newarr hG 0 rfl rfl (by simp) kA_int (by decide) dAr_copyOf_15 ⟨Nat.le_of_ble_eq_true rfl, Nat.le_of_ble_eq_true rfl⟩ (fun p15 => ?_)
    refine s_astore_n hG dAr_copyOf_17 (by decide) ?_
    refine s_aload_n hG dAr_copyOf_18 rfl ?_
    refine s_iconst (v := 0) hG dAr_copyOf_19 (by decide) ?_
    refine s_aload_n hG dAr_copyOf_20 rfl ?_
    refine s_iconst (v := 0) hG dAr_copyOf_21 (by decide) ?_
    refine s_aload_n hG dAr_copyOf_22 rfl ?_
    refine s_alen hG 0 rfl dAr_copyOf_23 (fun v23 => ?_)
    refine s_iload_n hG dAr_copyOf_24 rfl ?_
    refine s_callSi hG kMAr_304 (corMt_min N _ _ _) rfl (by first | decide | omega) dAr_copyOf_25 rfl rfl (Nat.le_of_ble_eq_true rfl) ⟨Nat.le_of_ble_eq_true rfl, Nat.le_of_ble_eq_true rfl⟩ (fun p25 => ?_)
    refine s_copy hG kYAr_150 rfl (by decide) dAr_copyOf_28 (Nat.le_of_ble_eq_true rfl) (fun σ28 => ?_)
    refine s_aload_n hG dAr_copyOf_31 rfl ?_
    exact s_aret hG dAr_copyOf_32 rfl (by first | exact Or.inl ⟨_, rfl⟩ | exact Or.inr ⟨_, rfl⟩) (Nat.le_of_ble_eq_true rfl) (Nat.le_of_ble_eq_true rfl)
  · refine s_aload_n hG dAr_copyOf_6 rfl ?_
    refine s_clone hG kCl1 kCl2 kCl3 kCl4 kCl5 rfl (by decide) dAr_copyOf_7 (Nat.le_of_ble_eq_true rfl) ⟨Nat.le_of_ble_eq_true rfl, Nat.le_of_ble_eq_true rfl⟩ (fun p7 hp7 => ?_)
    refine s_castA hG kCl6 (fun r σ' e => clA_kd hp7) dAr_copyOf_10 ?_
    exact s_aret hG dAr_copyOf_13 rfl (by first | exact Or.inl ⟨_, rfl⟩ | exact Or.inr ⟨_, rfl⟩) (Nat.le_of_ble_eq_true rfl) (Nat.le_of_ble_eq_true rfl)
def fc3_init (N : Nat) (a0 : Nat) (x1 : Option Nat) (σ : Me) : Option (Unit × Me) :=
  (newA σ .int (32 : Int32) 32).bind fun p7 =>
  (pR p7.2 3 1 (some a0) (some p7.1)).bind fun σ9 =>
  (pR σ9 3 0 (some a0) x1).bind fun σ14 =>
  some ((), σ14)
set_option maxRecDepth 20000 in
set_option maxHeartbeats 2000000 in
theorem corc3_init {Ω : Om} (N : Nat) (a0 : Nat) (x1 : Option Nat) (σ : Me) : Cor Ω tc3_init 1 1 32 [vR (some a0), vR x1] σ ιV (fc3_init N a0 x1 σ) := by
  refine Cor.of (by decide +kernel) (Nat.le_of_ble_eq_true rfl) (fun Γ hG => ?_)
  unfold fc3_init
  show Sim Ω Γ 1 32 ιV 2 0 [(0, vR (some a0)), (1, vR x1)] [] σ 0 0 _
  refine s_aload_n hG dc3_init_0 rfl ?_
  refine s_objInit hG kOc3_3 kOi kOc rfl (by decide) dc3_init_1 (Nat.le_of_ble_eq_true rfl) ?_
  refine s_aload_n hG dc3_init_4 rfl ?_
  refine s_bipush (v := 32) hG dc3_init_5 (by decide) ?_
  refine s_newarr hG 0 rfl rfl (by simp) kA_int (by decide) dc3_init_7 ⟨Nat.le_of_ble_eq_true rfl, Nat.le_of_ble_eq_true rfl⟩ (fun p7 => ?_)
  refine s_putR (fin := true) hG kFc3_11 rfl (fun _ => ⟨rfl, rfl⟩) rfl (fun v => by cases v <;> rfl) (fun v => by cases v <;> rfl) dc3_init_9 (fun σ9 => ?_)
  refine s_aload_n hG dc3_init_12 rfl ?_
  refine s_aload_n hG dc3_init_13 rfl ?_
  refine s_putR (fin := true) hG kFc3_15 rfl (fun _ => ⟨rfl, rfl⟩) rfl (fun v => by cases v <;> rfl) (fun v => by cases v <;> rfl) dc3_init_14 (fun σ14 => ?_)
  exact s_vret hG dc3_init_17 rfl (Nat.le_of_ble_eq_true rfl) (Nat.le_of_ble_eq_true rfl)
def fc4_toLaw (N : Nat) (a0 : Nat) (σ : Me) : Option (Option Nat × Me) :=
  (newO σ 3).bind fun p0 =>
  (qR p0.2 4 1 (some a0)).bind fun v5 =>
  (qI p0.2 4 2 (some a0)).bind fun v9 =>
  (fAr_copyOf N v5 v9 p0.2).bind fun p12 =>
  (fc3_init N p0.1 p12.1 p12.2).bind fun p15 =>
  some ((some p0.1), p15.2)
set_option maxRecDepth 20000 in
set_option maxHeartbeats 2000000 in
theorem corc4_toLaw {Ω : Om} (N : Nat) (a0 : Nat) (σ : Me) : Cor Ω tc4_toLaw 3 3 1034 [vR (some a0)] σ ιR (fc4_toLaw N a0 σ) := by
  refine Cor.of (by decide +kernel) (Nat.le_of_ble_eq_true rfl) (fun Γ hG => ?_)
  unfold fc4_toLaw
  show Sim Ω Γ 3 1034 ιR 1 0 [(0, vR (some a0))] [] σ 0 0 _
  refine s_new hG kNc4_19 dc4_toLaw_0 ⟨Nat.le_of_ble_eq_true rfl, Nat.le_of_ble_eq_true rfl⟩ (fun p0 => ?_)
  refine s_dup hG dc4_toLaw_3 rfl ?_
  refine s_aload_n hG dc4_toLaw_4 rfl ?_
  refine s_getR hG kFc4_9 rfl dc4_toLaw_5 (fun v5 => ?_)
  refine s_aload_n hG dc4_toLaw_8 rfl ?_
  refine s_getI hG kFc4_21 rfl dc4_toLaw_9 (fun v9 => ?_)
  refine s_callSr hG kMc4_25 (corAr_copyOf N _ _ _) rfl (by first | decide | omega) dc4_toLaw_12 rfl rfl (Nat.le_of_ble_eq_true rfl) ⟨Nat.le_of_ble_eq_true rfl, Nat.le_of_ble_eq_true rfl⟩ (fun p12 => ?_)
  refine s_callIv hG kMc4_31 (corc3_init N _ _ _) rfl (by first | decide | omega) dc4_toLaw_15 rfl rfl (Nat.le_of_ble_eq_true rfl) ⟨Nat.le_of_ble_eq_true rfl, Nat.le_of_ble_eq_true rfl⟩ (fun p15 => ?_)
  exact s_aret hG dc4_toLaw_18 rfl (by first | exact Or.inl ⟨_, rfl⟩ | exact Or.inr ⟨_, rfl⟩) (Nat.le_of_ble_eq_true rfl) (Nat.le_of_ble_eq_true rfl)
def fc11_enact (N : Nat) (a0 : Nat) (σ : Me) : Option (Int32 × Me) :=
  (qI σ 11 6 (some a0)).bind fun v1 =>
  if v1 < (4 : Int32) then
    (qR σ 11 4 (some a0)).bind fun v11 =>
    (qI σ 11 6 (some a0)).bind fun v15 =>
    (qR σ 11 2 (some a0)).bind fun v19 =>
    (dr σ v19 (.inl 4)).bind fun a =>
    (fc4_toLaw N a σ).bind fun p22 =>
    (stR p22.2 "RainOwed$Law" 3 v11 v15 p22.1).bind fun σ25 =>
    (qI σ25 11 6 (some a0)).bind fun v28 =>
    (pI σ25 11 6 (some a0) (v28 + (1 : Int32))).bind fun σ34 =>
    some (v28, σ34)
  else
    some ((-1 : Int32), σ)
set_option maxRecDepth 20000 in
set_option maxHeartbeats 2000000 in
theorem corc11_enact {Ω : Om} (N : Nat) (a0 : Nat) (σ : Me) : Cor Ω tc11_enact 4 3 1034 [vR (some a0)] σ ιI (fc11_enact N a0 σ) := by
  refine Cor.of (by decide +kernel) (Nat.le_of_ble_eq_true rfl) (fun Γ hG => ?_)
  unfold fc11_enact
  show Sim Ω Γ 3 1034 ιI 1 0 [(0, vR (some a0))] [] σ 0 0 _
  refine s_aload_n hG dc11_enact_0 rfl ?_
  refine s_getI hG kFc11_157 rfl dc11_enact_1 (fun v1 => ?_)
  refine s_iconst (v := 4) hG dc11_enact_4 (by decide) ?_
  refine s_icmp_lt hG 10 dc11_enact_5 (by decide) ?_ ?_
  · refine s_aload_n hG dc11_enact_10 rfl ?_
    refine s_getR hG kFc11_41 rfl dc11_enact_11 (fun v11 => ?_)
    refine s_aload_n hG dc11_enact_14 rfl ?_
    refine s_getI hG kFc11_157 rfl dc11_enact_15 (fun v15 => ?_)
    refine s_aload_n hG dc11_enact_18 rfl ?_
    refine s_getR hG kFc11_28 rfl dc11_enact_19 (fun v19 => ?_)
    refine s_callVr hG kMc11_160 (fun a => corc4_toLaw N a _) ⟨by decide, rfl⟩ rfl (by first | decide | omega) dc11_enact_22 rfl rfl (Nat.le_of_ble_eq_true rfl) ⟨Nat.le_of_ble_eq_true rfl, Nat.le_of_ble_eq_true rfl⟩ (fun p22 => ?_)
    refine s_aast hG 4 rfl (by decide) rfl dc11_enact_25 (fun σ25 => ?_)
    refine s_aload_n hG dc11_enact_26 rfl ?_
    refine s_dup hG dc11_enact_27 rfl ?_
    refine s_getI hG kFc11_157 rfl dc11_enact_28 (fun v28 => ?_)
    refine s_dup_x1 hG dc11_enact_31 rfl rfl ?_
    refine s_iconst (v := 1) hG dc11_enact_32 (by decide) ?_
    refine s_iadd hG dc11_enact_33 ?_
    refine s_putI (fin := false) hG kFc11_157 rfl (fun h => by cases h) rfl (fun _ => rfl) (fun _ => rfl) dc11_enact_34 (fun σ34 => ?_)
    exact s_iret hG dc11_enact_37 rfl (Nat.le_of_ble_eq_true rfl) (Nat.le_of_ble_eq_true rfl)
  · refine s_iconst (v := -1) hG dc11_enact_8 (by decide) ?_
    exact s_iret hG dc11_enact_9 rfl (Nat.le_of_ble_eq_true rfl) (Nat.le_of_ble_eq_true rfl)
def fc7_init (N : Nat) (a0 : Nat) (x1 : Option Nat) (x2 : Option Nat) (x3 : Option Nat) (x4 : Int32) (σ : Me) : Option (Unit × Me) :=
  (aLn σ .int x1).bind fun v7 =>
  (fAr_copyOf N x1 v7 σ).bind fun p8 =>
  (pR p8.2 7 0 (some a0) p8.1).bind fun σ11 =>
  (aLn σ11 .int x2).bind fun v17 =>
  (fAr_copyOf N x2 v17 σ11).bind fun p18 =>
  (pR p18.2 7 1 (some a0) p18.1).bind fun σ21 =>
  (aLn σ21 .int x3).bind fun v27 =>
  (fAr_copyOf N x3 v27 σ21).bind fun p28 =>
  (pR p28.2 7 2 (some a0) p28.1).bind fun σ31 =>
  (pI σ31 7 3 (some a0) x4).bind fun σ37 =>
  some ((), σ37)
set_option maxRecDepth 20000 in
set_option maxHeartbeats 2000000 in
theorem corc7_init {Ω : Om} (N : Nat) (a0 : Nat) (x1 : Option Nat) (x2 : Option Nat) (x3 : Option Nat) (x4 : Int32) (σ : Me) : Cor Ω tc7_init 3 3 3000 [vR (some a0), vR x1, vR x2, vR x3, vI x4] σ ιV (fc7_init N a0 x1 x2 x3 x4 σ) := by
  refine Cor.of (by decide +kernel) (Nat.le_of_ble_eq_true rfl) (fun Γ hG => ?_)
  unfold fc7_init
  show Sim Ω Γ 3 3000 ιV 5 0 [(0, vR (some a0)), (1, vR x1), (2, vR x2), (3, vR x3), (4, vI x4)] [] σ 0 0 _
  refine s_aload_n hG dc7_init_0 rfl ?_
  refine s_objInit hG kOc7_1 kOi kOc rfl (by decide) dc7_init_1 (Nat.le_of_ble_eq_true rfl) ?_
  refine s_aload_n hG dc7_init_4 rfl ?_
  refine s_aload_n hG dc7_init_5 rfl ?_
  refine s_aload_n hG dc7_init_6 rfl ?_
  refine s_alen hG 0 rfl dc7_init_7 (fun v7 => ?_)
  refine s_callSr hG kMc7_7 (corAr_copyOf N _ _ _) rfl (by first | decide | omega) dc7_init_8 rfl rfl (Nat.le_of_ble_eq_true rfl) ⟨Nat.le_of_ble_eq_true rfl, Nat.le_of_ble_eq_true rfl⟩ (fun p8 => ?_)
  refine s_putR (fin := true) hG kFc7_13 rfl (fun _ => ⟨rfl, rfl⟩) rfl (fun v => by cases v <;> rfl) (fun v => by cases v <;> rfl) dc7_init_11 (fun σ11 => ?_)
  refine s_aload_n hG dc7_init_14 rfl ?_
  refine s_aload_n hG dc7_init_15 rfl ?_
  refine s_aload_n hG dc7_init_16 rfl ?_
  refine s_alen hG 0 rfl dc7_init_17 (fun v17 => ?_)
  refine s_callSr hG kMc7_7 (corAr_copyOf N _ _ _) rfl (by first | decide | omega) dc7_init_18 rfl rfl (Nat.le_of_ble_eq_true rfl) ⟨Nat.le_of_ble_eq_true rfl, Nat.le_of_ble_eq_true rfl⟩ (fun p18 => ?_)
  refine s_putR (fin := true) hG kFc7_19 rfl (fun _ => ⟨rfl, rfl⟩) rfl (fun v => by cases v <;> rfl) (fun v => by cases v <;> rfl) dc7_init_21 (fun σ21 => ?_)
  refine s_aload_n hG dc7_init_24 rfl ?_
  refine s_aload_n hG dc7_init_25 rfl ?_
  refine s_aload_n hG dc7_init_26 rfl ?_
  refine s_alen hG 0 rfl dc7_init_27 (fun v27 => ?_)
  refine s_callSr hG kMc7_7 (corAr_copyOf N _ _ _) rfl (by first | decide | omega) dc7_init_28 rfl rfl (Nat.le_of_ble_eq_true rfl) ⟨Nat.le_of_ble_eq_true rfl, Nat.le_of_ble_eq_true rfl⟩ (fun p28 => ?_)
  refine s_putR (fin := true) hG kFc7_22 rfl (fun _ => ⟨rfl, rfl⟩) rfl (fun v => by cases v <;> rfl) (fun v => by cases v <;> rfl) dc7_init_31 (fun σ31 => ?_)
  refine s_aload_n hG dc7_init_34 rfl ?_
  refine s_iload hG dc7_init_35 rfl ?_
  refine s_putI (fin := true) hG kFc7_25 rfl (fun _ => ⟨rfl, rfl⟩) rfl (fun _ => rfl) (fun _ => rfl) dc7_init_37 (fun σ37 => ?_)
  exact s_vret hG dc7_init_40 rfl (Nat.le_of_ble_eq_true rfl) (Nat.le_of_ble_eq_true rfl)
def fc8_toPlan (N : Nat) (a0 : Nat) (σ : Me) : Option (Option Nat × Me) :=
  (newO σ 7).bind fun p0 =>
  (qR p0.2 8 1 (some a0)).bind fun v5 =>
  (qR p0.2 8 2 (some a0)).bind fun v9 =>
  (qR p0.2 8 3 (some a0)).bind fun v13 =>
  (qI p0.2 8 4 (some a0)).bind fun v17 =>
  (fc7_init N p0.1 v5 v9 v13 v17 p0.2).bind fun p20 =>
  some ((some p0.1), p20.2)
set_option maxRecDepth 20000 in
set_option maxHeartbeats 2000000 in
theorem corc8_toPlan {Ω : Om} (N : Nat) (a0 : Nat) (σ : Me) : Cor Ω tc8_toPlan 4 4 3004 [vR (some a0)] σ ιR (fc8_toPlan N a0 σ) := by
  refine Cor.of (by decide +kernel) (Nat.le_of_ble_eq_true rfl) (fun Γ hG => ?_)
  unfold fc8_toPlan
  show Sim Ω Γ 4 3004 ιR 1 0 [(0, vR (some a0))] [] σ 0 0 _
  refine s_new hG kNc8_9 dc8_toPlan_0 ⟨Nat.le_of_ble_eq_true rfl, Nat.le_of_ble_eq_true rfl⟩ (fun p0 => ?_)
  refine s_dup hG dc8_toPlan_3 rfl ?_
  refine s_aload_n hG dc8_toPlan_4 rfl ?_
  refine s_getR hG kFc8_11 rfl dc8_toPlan_5 (fun v5 => ?_)
  refine s_aload_n hG dc8_toPlan_8 rfl ?_
  refine s_getR hG kFc8_17 rfl dc8_toPlan_9 (fun v9 => ?_)
  refine s_aload_n hG dc8_toPlan_12 rfl ?_
  refine s_getR hG kFc8_20 rfl dc8_toPlan_13 (fun v13 => ?_)
  refine s_aload_n hG dc8_toPlan_16 rfl ?_
  refine s_getI hG kFc8_27 rfl dc8_toPlan_17 (fun v17 => ?_)
  refine s_callIv hG kMc8_31 (corc7_init N _ _ _ _ _ _) rfl (by first | decide | omega) dc8_toPlan_20 rfl rfl (Nat.le_of_ble_eq_true rfl) ⟨Nat.le_of_ble_eq_true rfl, Nat.le_of_ble_eq_true rfl⟩ (fun p20 => ?_)
  exact s_aret hG dc8_toPlan_23 rfl (by first | exact Or.inl ⟨_, rfl⟩ | exact Or.inr ⟨_, rfl⟩) (Nat.le_of_ble_eq_true rfl) (Nat.le_of_ble_eq_true rfl)
def fc11_intend (N : Nat) (a0 : Nat) (σ : Me) : Option (Int32 × Me) :=
  (qI σ 11 7 (some a0)).bind fun v1 =>
  if v1 < (4 : Int32) then
    (qR σ 11 5 (some a0)).bind fun v11 =>
    (qI σ 11 7 (some a0)).bind fun v15 =>
    (qR σ 11 3 (some a0)).bind fun v19 =>
    (dr σ v19 (.inl 8)).bind fun a =>
    (fc8_toPlan N a σ).bind fun p22 =>
    (stR p22.2 "RainOwed$Plan" 7 v11 v15 p22.1).bind fun σ25 =>
    (qI σ25 11 7 (some a0)).bind fun v28 =>
    (pI σ25 11 7 (some a0) (v28 + (1 : Int32))).bind fun σ34 =>
    some (v28, σ34)
  else
    some ((-1 : Int32), σ)
set_option maxRecDepth 20000 in
set_option maxHeartbeats 2000000 in
theorem corc11_intend {Ω : Om} (N : Nat) (a0 : Nat) (σ : Me) : Cor Ω tc11_intend 5 4 3004 [vR (some a0)] σ ιI (fc11_intend N a0 σ) := by
  refine Cor.of (by decide +kernel) (Nat.le_of_ble_eq_true rfl) (fun Γ hG => ?_)
  unfold fc11_intend
  show Sim Ω Γ 4 3004 ιI 1 0 [(0, vR (some a0))] [] σ 0 0 _
  refine s_aload_n hG dc11_intend_0 rfl ?_
  refine s_getI hG kFc11_164 rfl dc11_intend_1 (fun v1 => ?_)
  refine s_iconst (v := 4) hG dc11_intend_4 (by decide) ?_
  refine s_icmp_lt hG 10 dc11_intend_5 (by decide) ?_ ?_
  · refine s_aload_n hG dc11_intend_10 rfl ?_
    refine s_getR hG kFc11_47 rfl dc11_intend_11 (fun v11 => ?_)
    refine s_aload_n hG dc11_intend_14 rfl ?_
    refine s_getI hG kFc11_164 rfl dc11_intend_15 (fun v15 => ?_)
    refine s_aload_n hG dc11_intend_18 rfl ?_
    refine s_getR hG kFc11_35 rfl dc11_intend_19 (fun v19 => ?_)
    refine s_callVr hG kMc11_167 (fun a => corc8_toPlan N a _) ⟨by decide, rfl⟩ rfl (by first | decide | omega) dc11_intend_22 rfl rfl (Nat.le_of_ble_eq_true rfl) ⟨Nat.le_of_ble_eq_true rfl, Nat.le_of_ble_eq_true rfl⟩ (fun p22 => ?_)
    refine s_aast hG 5 rfl (by decide) rfl dc11_intend_25 (fun σ25 => ?_)
    refine s_aload_n hG dc11_intend_26 rfl ?_
    refine s_dup hG dc11_intend_27 rfl ?_
    refine s_getI hG kFc11_164 rfl dc11_intend_28 (fun v28 => ?_)
    refine s_dup_x1 hG dc11_intend_31 rfl rfl ?_
    refine s_iconst (v := 1) hG dc11_intend_32 (by decide) ?_
    refine s_iadd hG dc11_intend_33 ?_
    refine s_putI (fin := false) hG kFc11_164 rfl (fun h => by cases h) rfl (fun _ => rfl) (fun _ => rfl) dc11_intend_34 (fun σ34 => ?_)
    exact s_iret hG dc11_intend_37 rfl (Nat.le_of_ble_eq_true rfl) (Nat.le_of_ble_eq_true rfl)
  · refine s_iconst (v := -1) hG dc11_intend_8 (by decide) ?_
    exact s_iret hG dc11_intend_9 rfl (Nat.le_of_ble_eq_true rfl) (Nat.le_of_ble_eq_true rfl)
def fc2_copyFrom (N : Nat) (a0 : Nat) (x1 : Option Nat) (σ : Me) : Option (Unit × Me) :=
  (qR σ 2 0 x1).bind fun v1 =>
  (qR σ 2 0 (some a0)).bind fun v6 =>
  (cpI σ v1 (0 : Int32) v6 (0 : Int32) (6 : Int32)).bind fun σ12 =>
  (qR σ12 2 1 x1).bind fun v16 =>
  (qR σ12 2 1 (some a0)).bind fun v21 =>
  (cpI σ12 v16 (0 : Int32) v21 (0 : Int32) (6 : Int32)).bind fun σ27 =>
  (qR σ27 2 2 x1).bind fun v31 =>
  (qR σ27 2 2 (some a0)).bind fun v36 =>
  (cpI σ27 v31 (0 : Int32) v36 (0 : Int32) (6 : Int32)).bind fun σ42 =>
  (qR σ42 2 3 x1).bind fun v46 =>
  (qR σ42 2 3 (some a0)).bind fun v51 =>
  (cpI σ42 v46 (0 : Int32) v51 (0 : Int32) (6 : Int32)).bind fun σ57 =>
  (qR σ57 2 4 x1).bind fun v61 =>
  (qR σ57 2 4 (some a0)).bind fun v66 =>
  (cpI σ57 v61 (0 : Int32) v66 (0 : Int32) (6 : Int32)).bind fun σ72 =>
  (qI σ72 2 5 x1).bind fun v77 =>
  (pI σ72 2 5 (some a0) v77).bind fun σ80 =>
  (qI σ80 2 6 x1).bind fun v85 =>
  (pI σ80 2 6 (some a0) v85).bind fun σ88 =>
  (qI σ88 2 7 x1).bind fun v93 =>
  (pI σ88 2 7 (some a0) v93).bind fun σ96 =>
  (qI σ96 2 8 x1).bind fun v101 =>
  (pI σ96 2 8 (some a0) v101).bind fun σ104 =>
  (qI σ104 2 9 x1).bind fun v109 =>
  (pI σ104 2 9 (some a0) v109).bind fun σ112 =>
  some ((), σ112)
set_option maxRecDepth 20000 in
set_option maxHeartbeats 2000000 in
theorem corc2_copyFrom {Ω : Om} (N : Nat) (a0 : Nat) (x1 : Option Nat) (σ : Me) : Cor Ω tc2_copyFrom 1 0 0 [vR (some a0), vR x1] σ ιV (fc2_copyFrom N a0 x1 σ) := by
  refine Cor.of (by decide +kernel) (Nat.le_of_ble_eq_true rfl) (fun Γ hG => ?_)
  unfold fc2_copyFrom
  show Sim Ω Γ 0 0 ιV 2 0 [(0, vR (some a0)), (1, vR x1)] [] σ 0 0 _
  refine s_aload_n hG dc2_copyFrom_0 rfl ?_
  refine s_getR hG kFc2_9 rfl dc2_copyFrom_1 (fun v1 => ?_)
  refine s_iconst (v := 0) hG dc2_copyFrom_4 (by decide) ?_
  refine s_aload_n hG dc2_copyFrom_5 rfl ?_
  refine s_getR hG kFc2_9 rfl dc2_copyFrom_6 (fun v6 => ?_)
  refine s_iconst (v := 0) hG dc2_copyFrom_9 (by decide) ?_
  refine s_bipush (v := 6) hG dc2_copyFrom_10 (by decide) ?_
  refine s_copy hG kYc2_27 rfl (by decide) dc2_copyFrom_12 (Nat.le_of_ble_eq_true rfl) (fun σ12 => ?_)
  refine s_aload_n hG dc2_copyFrom_15 rfl ?_
  refine s_getR hG kFc2_15 rfl dc2_copyFrom_16 (fun v16 => ?_)
  refine s_iconst (v := 0) hG dc2_copyFrom_19 (by decide) ?_
  refine s_aload_n hG dc2_copyFrom_20 rfl ?_
  refine s_getR hG kFc2_15 rfl dc2_copyFrom_21 (fun v21 => ?_)
  refine s_iconst (v := 0) hG dc2_copyFrom_24 (by decide) ?_
  refine s_bipush (v := 6) hG dc2_copyFrom_25 (by decide) ?_
  refine s_copy hG kYc2_27 rfl (by decide) dc2_copyFrom_27 (Nat.le_of_ble_eq_true rfl) (fun σ27 => ?_)
  refine s_aload_n hG dc2_copyFrom_30 rfl ?_
  refine s_getR hG kFc2_18 rfl dc2_copyFrom_31 (fun v31 => ?_)
  refine s_iconst (v := 0) hG dc2_copyFrom_34 (by decide) ?_
  refine s_aload_n hG dc2_copyFrom_35 rfl ?_
  refine s_getR hG kFc2_18 rfl dc2_copyFrom_36 (fun v36 => ?_)
  refine s_iconst (v := 0) hG dc2_copyFrom_39 (by decide) ?_
  refine s_bipush (v := 6) hG dc2_copyFrom_40 (by decide) ?_
  refine s_copy hG kYc2_27 rfl (by decide) dc2_copyFrom_42 (Nat.le_of_ble_eq_true rfl) (fun σ42 => ?_)
  refine s_aload_n hG dc2_copyFrom_45 rfl ?_
  refine s_getR hG kFc2_21 rfl dc2_copyFrom_46 (fun v46 => ?_)
  refine s_iconst (v := 0) hG dc2_copyFrom_49 (by decide) ?_
  refine s_aload_n hG dc2_copyFrom_50 rfl ?_
  refine s_getR hG kFc2_21 rfl dc2_copyFrom_51 (fun v51 => ?_)
  refine s_iconst (v := 0) hG dc2_copyFrom_54 (by decide) ?_
  refine s_bipush (v := 6) hG dc2_copyFrom_55 (by decide) ?_
  refine s_copy hG kYc2_27 rfl (by decide) dc2_copyFrom_57 (Nat.le_of_ble_eq_true rfl) (fun σ57 => ?_)
  refine s_aload_n hG dc2_copyFrom_60 rfl ?_
  refine s_getR hG kFc2_24 rfl dc2_copyFrom_61 (fun v61 => ?_)
  refine s_iconst (v := 0) hG dc2_copyFrom_64 (by decide) ?_
  refine s_aload_n hG dc2_copyFrom_65 rfl ?_
  refine s_getR hG kFc2_24 rfl dc2_copyFrom_66 (fun v66 => ?_)
  refine s_iconst (v := 0) hG dc2_copyFrom_69 (by decide) ?_
  refine s_bipush (v := 6) hG dc2_copyFrom_70 (by decide) ?_
  refine s_copy hG kYc2_27 rfl (by decide) dc2_copyFrom_72 (Nat.le_of_ble_eq_true rfl) (fun σ72 => ?_)
  refine s_aload_n hG dc2_copyFrom_75 rfl ?_
  refine s_aload_n hG dc2_copyFrom_76 rfl ?_
  refine s_getI hG kFc2_33 rfl dc2_copyFrom_77 (fun v77 => ?_)
  refine s_putI (fin := false) hG kFc2_33 rfl (fun h => by cases h) rfl (fun _ => rfl) (fun _ => rfl) dc2_copyFrom_80 (fun σ80 => ?_)
  refine s_aload_n hG dc2_copyFrom_83 rfl ?_
  refine s_aload_n hG dc2_copyFrom_84 rfl ?_
  refine s_getI hG kFc2_37 rfl dc2_copyFrom_85 (fun v85 => ?_)
  refine s_putI (fin := false) hG kFc2_37 rfl (fun h => by cases h) rfl (fun _ => rfl) (fun _ => rfl) dc2_copyFrom_88 (fun σ88 => ?_)
  refine s_aload_n hG dc2_copyFrom_91 rfl ?_
  refine s_aload_n hG dc2_copyFrom_92 rfl ?_
  refine s_getI hG kFc2_40 rfl dc2_copyFrom_93 (fun v93 => ?_)
  refine s_putI (fin := false) hG kFc2_40 rfl (fun h => by cases h) rfl (fun _ => rfl) (fun _ => rfl) dc2_copyFrom_96 (fun σ96 => ?_)
  refine s_aload_n hG dc2_copyFrom_99 rfl ?_
  refine s_aload_n hG dc2_copyFrom_100 rfl ?_
  refine s_getI hG kFc2_43 rfl dc2_copyFrom_101 (fun v101 => ?_)
  refine s_putI (fin := false) hG kFc2_43 rfl (fun h => by cases h) rfl (fun _ => rfl) (fun _ => rfl) dc2_copyFrom_104 (fun σ104 => ?_)
  refine s_aload_n hG dc2_copyFrom_107 rfl ?_
  refine s_aload_n hG dc2_copyFrom_108 rfl ?_
  refine s_getI hG kFc2_46 rfl dc2_copyFrom_109 (fun v109 => ?_)
  refine s_putI (fin := false) hG kFc2_46 rfl (fun h => by cases h) rfl (fun _ => rfl) (fun _ => rfl) dc2_copyFrom_112 (fun σ112 => ?_)
  exact s_vret hG dc2_copyFrom_115 rfl (Nat.le_of_ble_eq_true rfl) (Nat.le_of_ble_eq_true rfl)
def fc11_settleThere (N : Nat) (a0 : Nat) (σ : Me) : Option (Int32 × Me) :=
  (qR σ 11 10 (some a0)).bind fun v1 =>
  (qR σ 11 1 (some a0)).bind fun v5 =>
  (qR σ 6 3 v5).bind fun v8 =>
  (dr σ v1 (.inl 2)).bind fun a =>
  (fc2_copyFrom N a v8 σ).bind fun p11 =>
  (qR p11.2 11 14 (some a0)).bind fun v15 =>
  (pI p11.2 5 2 v15 (0 : Int32)).bind fun σ19 =>
  (qR σ19 11 14 (some a0)).bind fun v23 =>
  (pZ σ19 5 5 v23 (0 : Int32)).bind fun σ27 =>
  (qR σ27 11 15 (some a0)).bind fun v31 =>
  (pI σ27 1 4 v31 (0 : Int32)).bind fun σ35 =>
  (qR σ35 11 10 (some a0)).bind fun v39 =>
  (qI σ35 2 5 v39).bind fun v42 =>
  some (v42, σ35)
set_option maxRecDepth 20000 in
set_option maxHeartbeats 2000000 in
theorem corc11_settleThere {Ω : Om} (N : Nat) (a0 : Nat) (σ : Me) : Cor Ω tc11_settleThere 2 0 0 [vR (some a0)] σ ιI (fc11_settleThere N a0 σ) := by
  refine Cor.of (by decide +kernel) (Nat.le_of_ble_eq_true rfl) (fun Γ hG => ?_)
  unfold fc11_settleThere
  show Sim Ω Γ 0 0 ιI 1 0 [(0, vR (some a0))] [] σ 0 0 _
  refine s_aload_n hG dc11_settleThere_0 rfl ?_
  refine s_getR hG kFc11_58 rfl dc11_settleThere_1 (fun v1 => ?_)
  refine s_aload_n hG dc11_settleThere_4 rfl ?_
  refine s_getR hG kFc11_21 rfl dc11_settleThere_5 (fun v5 => ?_)
  refine s_getR hG kFc11_137 rfl dc11_settleThere_8 (fun v8 => ?_)
  refine s_callVv hG kMc11_140 (fun a => corc2_copyFrom N a _ _) ⟨by decide, rfl⟩ rfl (by first | decide | omega) dc11_settleThere_11 rfl rfl (Nat.le_of_ble_eq_true rfl) ⟨Nat.le_of_ble_eq_true rfl, Nat.le_of_ble_eq_true rfl⟩ (fun p11 => ?_)
  refine s_aload_n hG dc11_settleThere_14 rfl ?_
  refine s_getR hG kFc11_82 rfl dc11_settleThere_15 (fun v15 => ?_)
  refine s_iconst (v := 0) hG dc11_settleThere_18 (by decide) ?_
  refine s_putI (fin := false) hG kFc11_144 rfl (fun h => by cases h) rfl (fun _ => rfl) (fun _ => rfl) dc11_settleThere_19 (fun σ19 => ?_)
  refine s_aload_n hG dc11_settleThere_22 rfl ?_
  refine s_getR hG kFc11_82 rfl dc11_settleThere_23 (fun v23 => ?_)
  refine s_iconst (v := 0) hG dc11_settleThere_26 (by decide) ?_
  refine s_putZ hG kFc11_147 rfl rfl dc11_settleThere_27 (fun σ27 => ?_)
  refine s_aload_n hG dc11_settleThere_30 rfl ?_
  refine s_getR hG kFc11_89 rfl dc11_settleThere_31 (fun v31 => ?_)
  refine s_iconst (v := 0) hG dc11_settleThere_34 (by decide) ?_
  refine s_putI (fin := false) hG kFc11_151 rfl (fun h => by cases h) rfl (fun _ => rfl) (fun _ => rfl) dc11_settleThere_35 (fun σ35 => ?_)
  refine s_aload_n hG dc11_settleThere_38 rfl ?_
  refine s_getR hG kFc11_58 rfl dc11_settleThere_39 (fun v39 => ?_)
  refine s_getI hG kFc11_154 rfl dc11_settleThere_42 (fun v42 => ?_)
  exact s_iret hG dc11_settleThere_45 rfl (Nat.le_of_ble_eq_true rfl) (Nat.le_of_ble_eq_true rfl)
def fc11_text_46 (N : Nat) (l0 : Option Nat) (s0 : Int32) (σ : Me) : Option (Int32 × Me) :=
  if s0 = (-1 : Int32) then
    some (s0, σ)
  else
    (qR σ 11 0 l0).bind fun v53 =>
    (pI σ 10 1 v53 (0 : Int32)).bind fun σ57 =>
    some (s0, σ57)
def fc11_text (N : Nat) (a0 : Nat) (x1 : Int32) (σ : Me) : Option (Int32 × Me) :=
  if x1 < 0 then
    some ((-1 : Int32), σ)
  else
    if (2 : Int32) < x1 then
      some ((-1 : Int32), σ)
    else
      (dr σ (some a0) (.inl 11)).bind fun a =>
      (fc11_reads N a x1 σ).bind fun p11 =>
      if p11.1 = 0 then
        some ((-1 : Int32), p11.2)
      else
        if x1 = 0 then
          (dr p11.2 (some a0) (.inl 11)).bind fun a =>
          (fc11_settleThere N a p11.2).bind fun p24 =>
          fc11_text_46 N (some a0) p24.1 p24.2
        else
          if x1 = (1 : Int32) then
            (dr p11.2 (some a0) (.inl 11)).bind fun a =>
            (fc11_enact N a p11.2).bind fun p36 =>
            fc11_text_46 N (some a0) p36.1 p36.2
          else
            (dr p11.2 (some a0) (.inl 11)).bind fun a =>
            (fc11_intend N a p11.2).bind fun p43 =>
            fc11_text_46 N (some a0) p43.1 p43.2
set_option maxRecDepth 20000 in
set_option maxHeartbeats 2000000 in
theorem pc11_text_46 {Ω : Om} {Γ : Ga} {N : Nat} (hG : Good Ω Γ tc11_text 138 4 3004) (l0 : Option Nat) (s0 : Int32) (σ : Me) : Sim Ω Γ 4 3004 ιI 3 46 [(0, vR l0)] [vI s0] σ 4 3004 (fc11_text_46 N l0 s0 σ) := by
  unfold fc11_text_46
  refine s_istore_n hG dc11_text_46 (by decide) ?_
  refine s_iload_n hG dc11_text_47 rfl ?_
  refine s_iconst (v := -1) hG dc11_text_48 (by decide) ?_
  refine s_icmp_eq hG 60 dc11_text_49 (by decide) ?_ ?_
  · refine s_iload_n hG dc11_text_60 rfl ?_
    exact s_iret hG dc11_text_61 rfl (Nat.le_of_ble_eq_true rfl) (Nat.le_of_ble_eq_true rfl)
  · refine s_aload_n hG dc11_text_52 rfl ?_
    refine s_getR hG kFc11_10 rfl dc11_text_53 (fun v53 => ?_)
    refine s_iconst (v := 0) hG dc11_text_56 (by decide) ?_
    refine s_putI (fin := false) hG kFc11_107 rfl (fun h => by cases h) rfl (fun _ => rfl) (fun _ => rfl) dc11_text_57 (fun σ57 => ?_)
    refine s_iload_n hG dc11_text_60 rfl ?_
    exact s_iret hG dc11_text_61 rfl (Nat.le_of_ble_eq_true rfl) (Nat.le_of_ble_eq_true rfl)
set_option maxRecDepth 20000 in
set_option maxHeartbeats 2000000 in
theorem corc11_text {Ω : Om} (N : Nat) (a0 : Nat) (x1 : Int32) (σ : Me) : Cor Ω tc11_text 138 4 3004 [vR (some a0), vI x1] σ ιI (fc11_text N a0 x1 σ) := by
  refine Cor.of (by decide +kernel) (Nat.le_of_ble_eq_true rfl) (fun Γ hG => ?_)
  unfold fc11_text
  show Sim Ω Γ 4 3004 ιI 3 0 [(0, vR (some a0)), (1, vI x1)] [] σ 0 0 _
  refine s_iload_n hG dc11_text_0 rfl ?_
  refine s_if_lt hG 17 dc11_text_1 (by decide) ?_ ?_
  · refine s_iconst (v := -1) hG dc11_text_17 (by decide) ?_
    exact s_iret hG dc11_text_18 rfl (Nat.le_of_ble_eq_true rfl) (Nat.le_of_ble_eq_true rfl)
  · refine s_iload_n hG dc11_text_4 rfl ?_
    refine s_iconst (v := 2) hG dc11_text_5 (by decide) ?_
    refine s_icmp_gt hG 17 dc11_text_6 (by decide) ?_ ?_
    · refine s_iconst (v := -1) hG dc11_text_17 (by decide) ?_
      exact s_iret hG dc11_text_18 rfl (Nat.le_of_ble_eq_true rfl) (Nat.le_of_ble_eq_true rfl)
    · refine s_aload_n hG dc11_text_9 rfl ?_
      refine s_iload_n hG dc11_text_10 rfl ?_
      refine s_callVi hG kMc11_114 (fun a => corc11_reads N a _ _) ⟨by decide, rfl⟩ rfl (by first | decide | omega) dc11_text_11 rfl rfl (Nat.le_of_ble_eq_true rfl) ⟨Nat.le_of_ble_eq_true rfl, Nat.le_of_ble_eq_true rfl⟩ (fun p11 => ?_)
      refine s_if_ne hG 19 dc11_text_14 (by decide) ?_ ?_
      · refine s_iload_n hG dc11_text_19 rfl ?_
        refine s_if_ne hG 30 dc11_text_20 (by decide) ?_ ?_
        · refine s_iload_n hG dc11_text_30 rfl ?_
          refine s_iconst (v := 1) hG dc11_text_31 (by decide) ?_
          refine s_icmp_ne hG 42 dc11_text_32 (by decide) ?_ ?_
          · refine s_aload_n hG dc11_text_42 rfl ?_
            refine s_callVi hG kMc11_128 (fun a => corc11_intend N a _) ⟨by decide, rfl⟩ rfl (by first | decide | omega) dc11_text_43 rfl rfl (Nat.le_of_ble_eq_true rfl) ⟨Nat.le_of_ble_eq_true rfl, Nat.le_of_ble_eq_true rfl⟩ (fun p43 => ?_)
            exact s_lv (lc rfl ln) (pc11_text_46 hG _ _ _)
          · refine s_aload_n hG dc11_text_35 rfl ?_
            refine s_callVi hG kMc11_125 (fun a => corc11_enact N a _) ⟨by decide, rfl⟩ rfl (by first | decide | omega) dc11_text_36 rfl rfl (Nat.le_of_ble_eq_true rfl) ⟨Nat.le_of_ble_eq_true rfl, Nat.le_of_ble_eq_true rfl⟩ (fun p36 => ?_)
            refine s_goto hG 46 dc11_text_39 (by decide) ?_
            refine s_widen (c2 := 4) (s2 := 3004) (Nat.le_of_ble_eq_true rfl) (Nat.le_of_ble_eq_true rfl) ?_
            exact s_lv (lc rfl ln) (pc11_text_46 hG _ _ _)
        · refine s_aload_n hG dc11_text_23 rfl ?_
          refine s_callVi hG kMc11_121 (fun a => corc11_settleThere N a _) ⟨by decide, rfl⟩ rfl (by first | decide | omega) dc11_text_24 rfl rfl (Nat.le_of_ble_eq_true rfl) ⟨Nat.le_of_ble_eq_true rfl, Nat.le_of_ble_eq_true rfl⟩ (fun p24 => ?_)
          refine s_goto hG 46 dc11_text_27 (by decide) ?_
          refine s_widen (c2 := 4) (s2 := 3004) (Nat.le_of_ble_eq_true rfl) (Nat.le_of_ble_eq_true rfl) ?_
          exact s_lv (lc rfl ln) (pc11_text_46 hG _ _ _)
      · refine s_iconst (v := -1) hG dc11_text_17 (by decide) ?_
        exact s_iret hG dc11_text_18 rfl (Nat.le_of_ble_eq_true rfl) (Nat.le_of_ble_eq_true rfl)
def fc11_rule (N : Nat) (a0 : Nat) (x1 : Int32) (σ : Me) : Option (Int32 × Me) :=
  (qR σ 11 10 (some a0)).bind fun v1 =>
  (qI σ 2 5 v1).bind fun v4 =>
  if v4 = 0 then
    some ((-1 : Int32), σ)
  else
    if x1 = (0 : Int32) then
      (qR σ 11 10 (some a0)).bind fun v41 =>
      (qI σ 2 6 v41).bind fun v44 =>
      some (v44, σ)
    else
    if x1 = (1 : Int32) then
      (qR σ 11 10 (some a0)).bind fun v49 =>
      (qI σ 2 7 v49).bind fun v52 =>
      some (v52, σ)
    else
    if x1 = (2 : Int32) then
      (qR σ 11 10 (some a0)).bind fun v57 =>
      (qI σ 2 8 v57).bind fun v60 =>
      some (v60, σ)
    else
    some ((-1 : Int32), σ)
set_option maxRecDepth 20000 in
set_option maxHeartbeats 2000000 in
theorem corc11_rule {Ω : Om} (N : Nat) (a0 : Nat) (x1 : Int32) (σ : Me) : Cor Ω tc11_rule 1 0 0 [vR (some a0), vI x1] σ ιI (fc11_rule N a0 x1 σ) := by
  refine Cor.of (by decide +kernel) (Nat.le_of_ble_eq_true rfl) (fun Γ hG => ?_)
  unfold fc11_rule
  show Sim Ω Γ 0 0 ιI 2 0 [(0, vR (some a0)), (1, vI x1)] [] σ 0 0 _
  refine s_aload_n hG dc11_rule_0 rfl ?_
  refine s_getR hG kFc11_58 rfl dc11_rule_1 (fun v1 => ?_)
  refine s_getI hG kFc11_154 rfl dc11_rule_4 (fun v4 => ?_)
  refine s_if_ne hG 12 dc11_rule_7 (by decide) ?_ ?_
  · refine s_iload_n hG dc11_rule_12 rfl ?_
    refine s_split _ (fun e0 => ?_) (fun e0 => ?_)
    · refine s_tabIn hG 40 dc11_rule_13 (by rw [e0]; decide) (by rw [e0]; decide) (by rw [e0]; rfl) (by decide) ?_
      refine s_aload_n hG dc11_rule_40 rfl ?_
      refine s_getR hG kFc11_58 rfl dc11_rule_41 (fun v41 => ?_)
      refine s_getI hG kFc11_171 rfl dc11_rule_44 (fun v44 => ?_)
      exact s_iret hG dc11_rule_47 rfl (Nat.le_of_ble_eq_true rfl) (Nat.le_of_ble_eq_true rfl)
    · refine s_split _ (fun e1 => ?_) (fun e1 => ?_)
      · refine s_tabIn hG 48 dc11_rule_13 (by rw [e1]; decide) (by rw [e1]; decide) (by rw [e1]; rfl) (by decide) ?_
        refine s_aload_n hG dc11_rule_48 rfl ?_
        refine s_getR hG kFc11_58 rfl dc11_rule_49 (fun v49 => ?_)
        refine s_getI hG kFc11_174 rfl dc11_rule_52 (fun v52 => ?_)
        exact s_iret hG dc11_rule_55 rfl (Nat.le_of_ble_eq_true rfl) (Nat.le_of_ble_eq_true rfl)
      · refine s_split _ (fun e2 => ?_) (fun e2 => ?_)
        · refine s_tabIn hG 56 dc11_rule_13 (by rw [e2]; decide) (by rw [e2]; decide) (by rw [e2]; rfl) (by decide) ?_
          refine s_aload_n hG dc11_rule_56 rfl ?_
          refine s_getR hG kFc11_58 rfl dc11_rule_57 (fun v57 => ?_)
          refine s_getI hG kFc11_177 rfl dc11_rule_60 (fun v60 => ?_)
          exact s_iret hG dc11_rule_63 rfl (Nat.le_of_ble_eq_true rfl) (Nat.le_of_ble_eq_true rfl)
        · refine s_tabOut hG 64 dc11_rule_13 (tab_out (lo := 0) (n := 2) (by decide) (by decide) (show ∀ q ∈ [(0 : Int32), (1 : Int32), (2 : Int32)], ¬ _ = q from (List.forall_mem_cons.mpr ⟨e0, (List.forall_mem_cons.mpr ⟨e1, (List.forall_mem_cons.mpr ⟨e2, (fun q h => absurd h List.not_mem_nil)⟩)⟩)⟩))) (by decide) ?_
          refine s_iconst (v := -1) hG dc11_rule_64 (by decide) ?_
          exact s_iret hG dc11_rule_65 rfl (Nat.le_of_ble_eq_true rfl) (Nat.le_of_ble_eq_true rfl)
  · refine s_iconst (v := -1) hG dc11_rule_10 (by decide) ?_
    exact s_iret hG dc11_rule_11 rfl (Nat.le_of_ble_eq_true rfl) (Nat.le_of_ble_eq_true rfl)
def fc0_lengthIn (N : Nat) (x0 : Int32) (σ : Me) : Option (Int32 × Me) :=
  (fMt_min N (60 : Int32) x0 σ).bind fun p3 =>
  some (p3.1, p3.2)
set_option maxRecDepth 20000 in
set_option maxHeartbeats 2000000 in
theorem corc0_lengthIn {Ω : Om} (N : Nat) (x0 : Int32) (σ : Me) : Cor Ω tc0_lengthIn 2 0 0 [vI x0] σ ιI (fc0_lengthIn N x0 σ) := by
  refine Cor.of (by decide +kernel) (Nat.le_of_ble_eq_true rfl) (fun Γ hG => ?_)
  unfold fc0_lengthIn
  show Sim Ω Γ 0 0 ιI 1 0 [(0, vI x0)] [] σ 0 0 _
  refine s_bipush (v := 60) hG dc0_lengthIn_0 (by decide) ?_
  refine s_iload_n hG dc0_lengthIn_2 rfl ?_
  refine s_callSi hG kMc0_21 (corMt_min N _ _ _) rfl (by first | decide | omega) dc0_lengthIn_3 rfl rfl (Nat.le_of_ble_eq_true rfl) ⟨Nat.le_of_ble_eq_true rfl, Nat.le_of_ble_eq_true rfl⟩ (fun p3 => ?_)
  exact s_iret hG dc0_lengthIn_6 rfl (Nat.le_of_ble_eq_true rfl) (Nat.le_of_ble_eq_true rfl)
def fc2_sum_4 (N : Nat) : Nat → Option Nat → Option Nat → Int32 → Int32 → Me → Option (Int32 × Me)
  | 0, _, _, _, _, _ => none
  | n + 1, l0, l1, l2, l3, σ =>
    (qI σ 2 5 l0).bind fun v6 =>
    if v6 ≤ l3 then
      some (l2, σ)
    else
      (ldI σ l1 l3).bind fun v15 =>
      (fc2_sum_4 N n) l0 l1 (l2 + v15) (l3 + (1 : Int32)) σ
def fc2_sum (N : Nat) (a0 : Nat) (x1 : Option Nat) (σ : Me) : Option (Int32 × Me) :=
  fc2_sum_4 N N (some a0) x1 (0 : Int32) (0 : Int32) σ
set_option maxRecDepth 20000 in
set_option maxHeartbeats 2000000 in
theorem pc2_sum_4 {Ω : Om} {Γ : Ga} {N : Nat} (hG : Good Ω Γ tc2_sum 1 0 0)  : ∀ (n : Nat) (l0 : Option Nat) (l1 : Option Nat) (l2 : Int32) (l3 : Int32) (σ : Me), Sim Ω Γ 0 0 ιI 4 4 [(0, vR l0), (1, vR l1), (2, vI l2), (3, vI l3)] [] σ 0 0 (fc2_sum_4 N n l0 l1 l2 l3 σ) := by
  intro n
  induction n with
  | zero => intros; exact s_none
  | succ n ih =>
    intro l0 l1 l2 l3 σ
    unfold fc2_sum_4
    refine s_iload_n hG dc2_sum_4 rfl ?_
    refine s_aload_n hG dc2_sum_5 rfl ?_
    refine s_getI hG kFc2_33 rfl dc2_sum_6 (fun v6 => ?_)
    refine s_icmp_ge hG 24 dc2_sum_9 (by decide) ?_ ?_
    · refine s_iload_n hG dc2_sum_24 rfl ?_
      exact s_iret hG dc2_sum_25 rfl (Nat.le_of_ble_eq_true rfl) (Nat.le_of_ble_eq_true rfl)
    · refine s_iload_n hG dc2_sum_12 rfl ?_
      refine s_aload_n hG dc2_sum_13 rfl ?_
      refine s_iload_n hG dc2_sum_14 rfl ?_
      refine s_iald hG dc2_sum_15 (fun v15 => ?_)
      refine s_iadd hG dc2_sum_16 ?_
      refine s_istore_n hG dc2_sum_17 (by decide) ?_
      refine s_iinc (v := 1) hG dc2_sum_18 rfl (by decide) (by decide) ?_
      refine s_goto hG 4 dc2_sum_21 (by decide) ?_
      exact s_lv (lc rfl (lc rfl (lc rfl (lc rfl ln)))) (ih _ _ _ _ _)
set_option maxRecDepth 20000 in
set_option maxHeartbeats 2000000 in
theorem corc2_sum {Ω : Om} (N : Nat) (a0 : Nat) (x1 : Option Nat) (σ : Me) : Cor Ω tc2_sum 1 0 0 [vR (some a0), vR x1] σ ιI (fc2_sum N a0 x1 σ) := by
  refine Cor.of (by decide +kernel) (Nat.le_of_ble_eq_true rfl) (fun Γ hG => ?_)
  unfold fc2_sum
  show Sim Ω Γ 0 0 ιI 4 0 [(0, vR (some a0)), (1, vR x1)] [] σ 0 0 _
  refine s_iconst (v := 0) hG dc2_sum_0 (by decide) ?_
  refine s_istore_n hG dc2_sum_1 (by decide) ?_
  refine s_iconst (v := 0) hG dc2_sum_2 (by decide) ?_
  refine s_istore_n hG dc2_sum_3 (by decide) ?_
  exact s_lv (lc rfl (lc rfl (lc rfl (lc rfl ln)))) (pc2_sum_4 hG _ _ _ _ _ _)
def fc11_count (N : Nat) (a0 : Nat) (x1 : Int32) (σ : Me) : Option (Int32 × Me) :=
  if x1 = (0 : Int32) then
    (qR σ 11 10 (some a0)).bind fun v61 =>
    (qI σ 2 5 v61).bind fun v64 =>
    some (v64, σ)
  else
  if x1 = (1 : Int32) then
    (qI σ 11 6 (some a0)).bind fun v69 =>
    some (v69, σ)
  else
  if x1 = (2 : Int32) then
    (qI σ 11 7 (some a0)).bind fun v74 =>
    some (v74, σ)
  else
  if x1 = (3 : Int32) then
    (qR σ 11 0 (some a0)).bind fun v79 =>
    (qI σ 10 1 v79).bind fun v82 =>
    some (v82, σ)
  else
  if x1 = (4 : Int32) then
    (qI σ 11 8 (some a0)).bind fun v87 =>
    some (v87, σ)
  else
  if x1 = (5 : Int32) then
    (qR σ 11 10 (some a0)).bind fun v92 =>
    (qI σ 2 9 v92).bind fun v95 =>
    some (v95, σ)
  else
  if x1 = (6 : Int32) then
    (qR σ 11 10 (some a0)).bind fun v100 =>
    (qR σ 11 10 (some a0)).bind fun v104 =>
    (qR σ 2 4 v104).bind fun v107 =>
    (dr σ v100 (.inl 2)).bind fun a =>
    (fc2_sum N a v107 σ).bind fun p110 =>
    some (p110.1, p110.2)
  else
  if x1 = (7 : Int32) then
    (qI σ 11 9 (some a0)).bind fun v115 =>
    some (v115, σ)
  else
  if x1 = (8 : Int32) then
    (qR σ 11 15 (some a0)).bind fun v120 =>
    (qI σ 1 4 v120).bind fun v123 =>
    some (v123, σ)
  else
  if x1 = (9 : Int32) then
    (qR σ 11 10 (some a0)).bind fun v128 =>
    (qI σ 2 9 v128).bind fun v131 =>
    (fc0_lengthIn N v131 σ).bind fun p134 =>
    some (p134.1, p134.2)
  else
  if x1 = (10 : Int32) then
    (qR σ 11 14 (some a0)).bind fun v139 =>
    (qI σ 5 2 v139).bind fun v142 =>
    some (v142, σ)
  else
  some ((-1000000 : Int32), σ)
set_option maxRecDepth 20000 in
set_option maxHeartbeats 2000000 in
theorem corc11_count {Ω : Om} (N : Nat) (a0 : Nat) (x1 : Int32) (σ : Me) : Cor Ω tc11_count 3 0 0 [vR (some a0), vI x1] σ ιI (fc11_count N a0 x1 σ) := by
  refine Cor.of (by decide +kernel) (Nat.le_of_ble_eq_true rfl) (fun Γ hG => ?_)
  unfold fc11_count
  show Sim Ω Γ 0 0 ιI 2 0 [(0, vR (some a0)), (1, vI x1)] [] σ 0 0 _
  refine s_iload_n hG dc11_count_0 rfl ?_
  refine s_split _ (fun e0 => ?_) (fun e0 => ?_)
  · refine s_tabIn hG 60 dc11_count_1 (by rw [e0]; decide) (by rw [e0]; decide) (by rw [e0]; rfl) (by decide) ?_
    refine s_aload_n hG dc11_count_60 rfl ?_
    refine s_getR hG kFc11_58 rfl dc11_count_61 (fun v61 => ?_)
    refine s_getI hG kFc11_154 rfl dc11_count_64 (fun v64 => ?_)
    exact s_iret hG dc11_count_67 rfl (Nat.le_of_ble_eq_true rfl) (Nat.le_of_ble_eq_true rfl)
  · refine s_split _ (fun e1 => ?_) (fun e1 => ?_)
    · refine s_tabIn hG 68 dc11_count_1 (by rw [e1]; decide) (by rw [e1]; decide) (by rw [e1]; rfl) (by decide) ?_
      refine s_aload_n hG dc11_count_68 rfl ?_
      refine s_getI hG kFc11_157 rfl dc11_count_69 (fun v69 => ?_)
      exact s_iret hG dc11_count_72 rfl (Nat.le_of_ble_eq_true rfl) (Nat.le_of_ble_eq_true rfl)
    · refine s_split _ (fun e2 => ?_) (fun e2 => ?_)
      · refine s_tabIn hG 73 dc11_count_1 (by rw [e2]; decide) (by rw [e2]; decide) (by rw [e2]; rfl) (by decide) ?_
        refine s_aload_n hG dc11_count_73 rfl ?_
        refine s_getI hG kFc11_164 rfl dc11_count_74 (fun v74 => ?_)
        exact s_iret hG dc11_count_77 rfl (Nat.le_of_ble_eq_true rfl) (Nat.le_of_ble_eq_true rfl)
      · refine s_split _ (fun e3 => ?_) (fun e3 => ?_)
        · refine s_tabIn hG 78 dc11_count_1 (by rw [e3]; decide) (by rw [e3]; decide) (by rw [e3]; rfl) (by decide) ?_
          refine s_aload_n hG dc11_count_78 rfl ?_
          refine s_getR hG kFc11_10 rfl dc11_count_79 (fun v79 => ?_)
          refine s_getI hG kFc11_107 rfl dc11_count_82 (fun v82 => ?_)
          exact s_iret hG dc11_count_85 rfl (Nat.le_of_ble_eq_true rfl) (Nat.le_of_ble_eq_true rfl)
        · refine s_split _ (fun e4 => ?_) (fun e4 => ?_)
          · refine s_tabIn hG 86 dc11_count_1 (by rw [e4]; decide) (by rw [e4]; decide) (by rw [e4]; rfl) (by decide) ?_
            refine s_aload_n hG dc11_count_86 rfl ?_
            refine s_getI hG kFc11_51 rfl dc11_count_87 (fun v87 => ?_)
            exact s_iret hG dc11_count_90 rfl (Nat.le_of_ble_eq_true rfl) (Nat.le_of_ble_eq_true rfl)
          · refine s_split _ (fun e5 => ?_) (fun e5 => ?_)
            · refine s_tabIn hG 91 dc11_count_1 (by rw [e5]; decide) (by rw [e5]; decide) (by rw [e5]; rfl) (by decide) ?_
              refine s_aload_n hG dc11_count_91 rfl ?_
              refine s_getR hG kFc11_58 rfl dc11_count_92 (fun v92 => ?_)
              refine s_getI hG kFc11_201 rfl dc11_count_95 (fun v95 => ?_)
              exact s_iret hG dc11_count_98 rfl (Nat.le_of_ble_eq_true rfl) (Nat.le_of_ble_eq_true rfl)
            · refine s_split _ (fun e6 => ?_) (fun e6 => ?_)
              · refine s_tabIn hG 99 dc11_count_1 (by rw [e6]; decide) (by rw [e6]; decide) (by rw [e6]; rfl) (by decide) ?_
                refine s_aload_n hG dc11_count_99 rfl ?_
                refine s_getR hG kFc11_58 rfl dc11_count_100 (fun v100 => ?_)
                refine s_aload_n hG dc11_count_103 rfl ?_
                refine s_getR hG kFc11_58 rfl dc11_count_104 (fun v104 => ?_)
                refine s_getR hG kFc11_198 rfl dc11_count_107 (fun v107 => ?_)
                refine s_callVi hG kMc11_204 (fun a => corc2_sum N a _ _) ⟨by decide, rfl⟩ rfl (by first | decide | omega) dc11_count_110 rfl rfl (Nat.le_of_ble_eq_true rfl) ⟨Nat.le_of_ble_eq_true rfl, Nat.le_of_ble_eq_true rfl⟩ (fun p110 => ?_)
                exact s_iret hG dc11_count_113 rfl (Nat.le_of_ble_eq_true rfl) (Nat.le_of_ble_eq_true rfl)
              · refine s_split _ (fun e7 => ?_) (fun e7 => ?_)
                · refine s_tabIn hG 114 dc11_count_1 (by rw [e7]; decide) (by rw [e7]; decide) (by rw [e7]; rfl) (by decide) ?_
                  refine s_aload_n hG dc11_count_114 rfl ?_
                  refine s_getI hG kFc11_208 rfl dc11_count_115 (fun v115 => ?_)
                  exact s_iret hG dc11_count_118 rfl (Nat.le_of_ble_eq_true rfl) (Nat.le_of_ble_eq_true rfl)
                · refine s_split _ (fun e8 => ?_) (fun e8 => ?_)
                  · refine s_tabIn hG 119 dc11_count_1 (by rw [e8]; decide) (by rw [e8]; decide) (by rw [e8]; rfl) (by decide) ?_
                    refine s_aload_n hG dc11_count_119 rfl ?_
                    refine s_getR hG kFc11_89 rfl dc11_count_120 (fun v120 => ?_)
                    refine s_getI hG kFc11_151 rfl dc11_count_123 (fun v123 => ?_)
                    exact s_iret hG dc11_count_126 rfl (Nat.le_of_ble_eq_true rfl) (Nat.le_of_ble_eq_true rfl)
                  · refine s_split _ (fun e9 => ?_) (fun e9 => ?_)
                    · refine s_tabIn hG 127 dc11_count_1 (by rw [e9]; decide) (by rw [e9]; decide) (by rw [e9]; rfl) (by decide) ?_
                      refine s_aload_n hG dc11_count_127 rfl ?_
                      refine s_getR hG kFc11_58 rfl dc11_count_128 (fun v128 => ?_)
                      refine s_getI hG kFc11_201 rfl dc11_count_131 (fun v131 => ?_)
                      refine s_callSi hG kMc11_211 (corc0_lengthIn N _ _) rfl (by first | decide | omega) dc11_count_134 rfl rfl (Nat.le_of_ble_eq_true rfl) ⟨Nat.le_of_ble_eq_true rfl, Nat.le_of_ble_eq_true rfl⟩ (fun p134 => ?_)
                      exact s_iret hG dc11_count_137 rfl (Nat.le_of_ble_eq_true rfl) (Nat.le_of_ble_eq_true rfl)
                    · refine s_split _ (fun e10 => ?_) (fun e10 => ?_)
                      · refine s_tabIn hG 138 dc11_count_1 (by rw [e10]; decide) (by rw [e10]; decide) (by rw [e10]; rfl) (by decide) ?_
                        refine s_aload_n hG dc11_count_138 rfl ?_
                        refine s_getR hG kFc11_82 rfl dc11_count_139 (fun v139 => ?_)
                        refine s_getI hG kFc11_144 rfl dc11_count_142 (fun v142 => ?_)
                        exact s_iret hG dc11_count_145 rfl (Nat.le_of_ble_eq_true rfl) (Nat.le_of_ble_eq_true rfl)
                      · refine s_tabOut hG 146 dc11_count_1 (tab_out (lo := 0) (n := 10) (by decide) (by decide) (show ∀ q ∈ [(0 : Int32), (1 : Int32), (2 : Int32), (3 : Int32), (4 : Int32), (5 : Int32), (6 : Int32), (7 : Int32), (8 : Int32), (9 : Int32), (10 : Int32)], ¬ _ = q from (List.forall_mem_cons.mpr ⟨e0, (List.forall_mem_cons.mpr ⟨e1, (List.forall_mem_cons.mpr ⟨e2, (List.forall_mem_cons.mpr ⟨e3, (List.forall_mem_cons.mpr ⟨e4, (List.forall_mem_cons.mpr ⟨e5, (List.forall_mem_cons.mpr ⟨e6, (List.forall_mem_cons.mpr ⟨e7, (List.forall_mem_cons.mpr ⟨e8, (List.forall_mem_cons.mpr ⟨e9, (List.forall_mem_cons.mpr ⟨e10, (fun q h => absurd h List.not_mem_nil)⟩)⟩)⟩)⟩)⟩)⟩)⟩)⟩)⟩)⟩)⟩))) (by decide) ?_
                        refine s_ldc hG dc11_count_146 kIc11_214 ?_
                        exact s_iret hG dc11_count_148 rfl (Nat.le_of_ble_eq_true rfl) (Nat.le_of_ble_eq_true rfl)
def fMt_floorMod (N : Nat) (x0 : Int32) (x1 : Int32) (σ : Me) : Option (Int32 × Me) :=
  (rmI x0 x1).bind fun v2 =>
  if 0 ≤ (x0 ^^^ x1) then
    some (v2, σ)
  else
    if v2 = 0 then
      some (v2, σ)
    else
      some ((v2 + x1), σ)
set_option maxRecDepth 20000 in
set_option maxHeartbeats 2000000 in
theorem corMt_floorMod {Ω : Om} (N : Nat) (x0 : Int32) (x1 : Int32) (σ : Me) : Cor Ω tMt_floorMod 1 0 0 [vI x0, vI x1] σ ιI (fMt_floorMod N x0 x1 σ) := by
  refine Cor.of (by decide +kernel) (Nat.le_of_ble_eq_true rfl) (fun Γ hG => ?_)
  unfold fMt_floorMod
  show Sim Ω Γ 0 0 ιI 3 0 [(0, vI x0), (1, vI x1)] [] σ 0 0 _
  refine s_iload_n hG dMt_floorMod_0 rfl ?_
  refine s_iload_n hG dMt_floorMod_1 rfl ?_
  refine s_irem hG dMt_floorMod_2 (fun v2 => ?_)
  refine s_istore_n hG dMt_floorMod_3 (by decide) ?_
  refine s_iload_n hG dMt_floorMod_4 rfl ?_
  refine s_iload_n hG dMt_floorMod_5 rfl ?_
  refine s_ixor hG dMt_floorMod_6 ?_
  refine s_if_ge hG 18 dMt_floorMod_7 (by decide) ?_ ?_
  · refine s_iload_n hG dMt_floorMod_18 rfl ?_
    exact s_iret hG dMt_floorMod_19 rfl (Nat.le_of_ble_eq_true rfl) (Nat.le_of_ble_eq_true rfl)
  · refine s_iload_n hG dMt_floorMod_10 rfl ?_
    refine s_if_eq hG 18 dMt_floorMod_11 (by decide) ?_ ?_
    · refine s_iload_n hG dMt_floorMod_18 rfl ?_
      exact s_iret hG dMt_floorMod_19 rfl (Nat.le_of_ble_eq_true rfl) (Nat.le_of_ble_eq_true rfl)
    · refine s_iload_n hG dMt_floorMod_14 rfl ?_
      refine s_iload_n hG dMt_floorMod_15 rfl ?_
      refine s_iadd hG dMt_floorMod_16 ?_
      exact s_iret hG dMt_floorMod_17 rfl (Nat.le_of_ble_eq_true rfl) (Nat.le_of_ble_eq_true rfl)
def fc0_entry (N : Nat) (a0 : Nat) (x1 : Int32) (x2 : Int32) (σ : Me) : Option (Int32 × Me) :=
  (fMt_floorMod N x1 (100 : Int32) σ).bind fun p3 =>
  if x2 = 0 then
    (qR p3.2 0 0 (some a0)).bind fun v12 =>
    (ldI p3.2 v12 p3.1).bind fun v16 =>
    some (v16, p3.2)
  else
    if x2 = (1 : Int32) then
      (qR p3.2 0 1 (some a0)).bind fun v26 =>
      (ldI p3.2 v26 p3.1).bind fun v30 =>
      some (v30, p3.2)
    else
      (qR p3.2 0 2 (some a0)).bind fun v35 =>
      (ldI p3.2 v35 p3.1).bind fun v39 =>
      some (v39, p3.2)
set_option maxRecDepth 20000 in
set_option maxHeartbeats 2000000 in
theorem corc0_entry {Ω : Om} (N : Nat) (a0 : Nat) (x1 : Int32) (x2 : Int32) (σ : Me) : Cor Ω tc0_entry 2 0 0 [vR (some a0), vI x1, vI x2] σ ιI (fc0_entry N a0 x1 x2 σ) := by
  refine Cor.of (by decide +kernel) (Nat.le_of_ble_eq_true rfl) (fun Γ hG => ?_)
  unfold fc0_entry
  show Sim Ω Γ 0 0 ιI 4 0 [(0, vR (some a0)), (1, vI x1), (2, vI x2)] [] σ 0 0 _
  refine s_iload_n hG dc0_entry_0 rfl ?_
  refine s_bipush (v := 100) hG dc0_entry_1 (by decide) ?_
  refine s_callSi hG kMc0_27 (corMt_floorMod N _ _ _) rfl (by first | decide | omega) dc0_entry_3 rfl rfl (Nat.le_of_ble_eq_true rfl) ⟨Nat.le_of_ble_eq_true rfl, Nat.le_of_ble_eq_true rfl⟩ (fun p3 => ?_)
  refine s_istore_n hG dc0_entry_6 (by decide) ?_
  refine s_iload_n hG dc0_entry_7 rfl ?_
  refine s_if_ne hG 20 dc0_entry_8 (by decide) ?_ ?_
  · refine s_iload_n hG dc0_entry_20 rfl ?_
    refine s_iconst (v := 1) hG dc0_entry_21 (by decide) ?_
    refine s_icmp_ne hG 34 dc0_entry_22 (by decide) ?_ ?_
    · refine s_aload_n hG dc0_entry_34 rfl ?_
      refine s_getR hG kFc0_18 rfl dc0_entry_35 (fun v35 => ?_)
      refine s_iload_n hG dc0_entry_38 rfl ?_
      refine s_iald hG dc0_entry_39 (fun v39 => ?_)
      exact s_iret hG dc0_entry_40 rfl (Nat.le_of_ble_eq_true rfl) (Nat.le_of_ble_eq_true rfl)
    · refine s_aload_n hG dc0_entry_25 rfl ?_
      refine s_getR hG kFc0_15 rfl dc0_entry_26 (fun v26 => ?_)
      refine s_iload_n hG dc0_entry_29 rfl ?_
      refine s_iald hG dc0_entry_30 (fun v30 => ?_)
      refine s_goto hG 40 dc0_entry_31 (by decide) ?_
      exact s_iret hG dc0_entry_40 rfl (Nat.le_of_ble_eq_true rfl) (Nat.le_of_ble_eq_true rfl)
  · refine s_aload_n hG dc0_entry_11 rfl ?_
    refine s_getR hG kFc0_11 rfl dc0_entry_12 (fun v12 => ?_)
    refine s_iload_n hG dc0_entry_15 rfl ?_
    refine s_iald hG dc0_entry_16 (fun v16 => ?_)
    refine s_goto hG 40 dc0_entry_17 (by decide) ?_
    exact s_iret hG dc0_entry_40 rfl (Nat.le_of_ble_eq_true rfl) (Nat.le_of_ble_eq_true rfl)
def fc11_log (N : Nat) (a0 : Nat) (x1 : Int32) (x2 : Int32) (σ : Me) : Option (Int32 × Me) :=
  if x1 < 0 then
    some ((-1 : Int32), σ)
  else
    (qR σ 11 10 (some a0)).bind fun v6 =>
    (qI σ 2 9 v6).bind fun v9 =>
    (fc0_lengthIn N v9 σ).bind fun p12 =>
    if p12.1 ≤ x1 then
      some ((-1 : Int32), p12.2)
    else
      if x2 < 0 then
        some ((-1 : Int32), p12.2)
      else
        if x2 ≤ (2 : Int32) then
          (qR p12.2 11 13 (some a0)).bind fun v30 =>
          (qR p12.2 11 10 (some a0)).bind fun v34 =>
          (qI p12.2 2 9 v34).bind fun v37 =>
          (dr p12.2 v30 (.inl 0)).bind fun a =>
          (fc0_entry N a ((v37 - (1 : Int32)) - x1) x2 p12.2).bind fun p45 =>
          some (p45.1, p45.2)
        else
          some ((-1 : Int32), p12.2)
set_option maxRecDepth 20000 in
set_option maxHeartbeats 2000000 in
theorem corc11_log {Ω : Om} (N : Nat) (a0 : Nat) (x1 : Int32) (x2 : Int32) (σ : Me) : Cor Ω tc11_log 3 0 0 [vR (some a0), vI x1, vI x2] σ ιI (fc11_log N a0 x1 x2 σ) := by
  refine Cor.of (by decide +kernel) (Nat.le_of_ble_eq_true rfl) (fun Γ hG => ?_)
  unfold fc11_log
  show Sim Ω Γ 0 0 ιI 3 0 [(0, vR (some a0)), (1, vI x1), (2, vI x2)] [] σ 0 0 _
  refine s_iload_n hG dc11_log_0 rfl ?_
  refine s_if_lt hG 27 dc11_log_1 (by decide) ?_ ?_
  · refine s_iconst (v := -1) hG dc11_log_27 (by decide) ?_
    exact s_iret hG dc11_log_28 rfl (Nat.le_of_ble_eq_true rfl) (Nat.le_of_ble_eq_true rfl)
  · refine s_iload_n hG dc11_log_4 rfl ?_
    refine s_aload_n hG dc11_log_5 rfl ?_
    refine s_getR hG kFc11_58 rfl dc11_log_6 (fun v6 => ?_)
    refine s_getI hG kFc11_201 rfl dc11_log_9 (fun v9 => ?_)
    refine s_callSi hG kMc11_211 (corc0_lengthIn N _ _) rfl (by first | decide | omega) dc11_log_12 rfl rfl (Nat.le_of_ble_eq_true rfl) ⟨Nat.le_of_ble_eq_true rfl, Nat.le_of_ble_eq_true rfl⟩ (fun p12 => ?_)
    refine s_icmp_ge hG 27 dc11_log_15 (by decide) ?_ ?_
    · refine s_iconst (v := -1) hG dc11_log_27 (by decide) ?_
      exact s_iret hG dc11_log_28 rfl (Nat.le_of_ble_eq_true rfl) (Nat.le_of_ble_eq_true rfl)
    · refine s_iload_n hG dc11_log_18 rfl ?_
      refine s_if_lt hG 27 dc11_log_19 (by decide) ?_ ?_
      · refine s_iconst (v := -1) hG dc11_log_27 (by decide) ?_
        exact s_iret hG dc11_log_28 rfl (Nat.le_of_ble_eq_true rfl) (Nat.le_of_ble_eq_true rfl)
      · refine s_iload_n hG dc11_log_22 rfl ?_
        refine s_iconst (v := 2) hG dc11_log_23 (by decide) ?_
        refine s_icmp_le hG 29 dc11_log_24 (by decide) ?_ ?_
        · refine s_aload_n hG dc11_log_29 rfl ?_
          refine s_getR hG kFc11_75 rfl dc11_log_30 (fun v30 => ?_)
          refine s_aload_n hG dc11_log_33 rfl ?_
          refine s_getR hG kFc11_58 rfl dc11_log_34 (fun v34 => ?_)
          refine s_getI hG kFc11_201 rfl dc11_log_37 (fun v37 => ?_)
          refine s_iconst (v := 1) hG dc11_log_40 (by decide) ?_
          refine s_isub hG dc11_log_41 ?_
          refine s_iload_n hG dc11_log_42 rfl ?_
          refine s_isub hG dc11_log_43 ?_
          refine s_iload_n hG dc11_log_44 rfl ?_
          refine s_callVi hG kMc11_215 (fun a => corc0_entry N a _ _ _) ⟨by decide, rfl⟩ rfl (by first | decide | omega) dc11_log_45 rfl rfl (Nat.le_of_ble_eq_true rfl) ⟨Nat.le_of_ble_eq_true rfl, Nat.le_of_ble_eq_true rfl⟩ (fun p45 => ?_)
          exact s_iret hG dc11_log_48 rfl (Nat.le_of_ble_eq_true rfl) (Nat.le_of_ble_eq_true rfl)
        · refine s_iconst (v := -1) hG dc11_log_27 (by decide) ?_
          exact s_iret hG dc11_log_28 rfl (Nat.le_of_ble_eq_true rfl) (Nat.le_of_ble_eq_true rfl)
