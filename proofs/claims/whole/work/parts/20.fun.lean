def fc0_init (N : Nat) (a0 : Nat) (σ : Me) : Option (Unit × Me) :=
  (newA σ .int (100 : Int32) 100).bind fun p7 =>
  (pR p7.2 0 0 (some a0) (some p7.1)).bind fun σ9 =>
  (newA σ9 .int (100 : Int32) 100).bind fun p15 =>
  (pR p15.2 0 1 (some a0) (some p15.1)).bind fun σ17 =>
  (newA σ17 .int (100 : Int32) 100).bind fun p23 =>
  (pR p23.2 0 2 (some a0) (some p23.1)).bind fun σ25 =>
  some ((), σ25)
set_option maxRecDepth 20000 in
set_option maxHeartbeats 2000000 in
theorem corc0_init {Ω : Om} (N : Nat) (a0 : Nat) (σ : Me) : Cor Ω tc0_init 1 3 300 [vR (some a0)] σ ιV (fc0_init N a0 σ) := by
  refine Cor.of (by decide +kernel) (Nat.le_of_ble_eq_true rfl) (fun Γ hG => ?_)
  unfold fc0_init
  show Sim Ω Γ 3 300 ιV 1 0 [(0, vR (some a0))] [] σ 0 0 _
  refine s_aload_n hG dc0_init_0 rfl ?_
  refine s_objInit hG kOc0_5 kOi kOc rfl (by decide) dc0_init_1 (Nat.le_of_ble_eq_true rfl) ?_
  refine s_aload_n hG dc0_init_4 rfl ?_
  refine s_bipush (v := 100) hG dc0_init_5 (by decide) ?_
  refine s_newarr hG 0 rfl rfl (by simp) kA_int (by decide) dc0_init_7 ⟨Nat.le_of_ble_eq_true rfl, Nat.le_of_ble_eq_true rfl⟩ (fun p7 => ?_)
  refine s_putR (fin := true) hG kFc0_11 rfl (fun _ => ⟨rfl, rfl⟩) rfl (fun v => by cases v <;> rfl) (fun v => by cases v <;> rfl) dc0_init_9 (fun σ9 => ?_)
  refine s_aload_n hG dc0_init_12 rfl ?_
  refine s_bipush (v := 100) hG dc0_init_13 (by decide) ?_
  refine s_newarr hG 0 rfl rfl (by simp) kA_int (by decide) dc0_init_15 ⟨Nat.le_of_ble_eq_true rfl, Nat.le_of_ble_eq_true rfl⟩ (fun p15 => ?_)
  refine s_putR (fin := true) hG kFc0_15 rfl (fun _ => ⟨rfl, rfl⟩) rfl (fun v => by cases v <;> rfl) (fun v => by cases v <;> rfl) dc0_init_17 (fun σ17 => ?_)
  refine s_aload_n hG dc0_init_20 rfl ?_
  refine s_bipush (v := 100) hG dc0_init_21 (by decide) ?_
  refine s_newarr hG 0 rfl rfl (by simp) kA_int (by decide) dc0_init_23 ⟨Nat.le_of_ble_eq_true rfl, Nat.le_of_ble_eq_true rfl⟩ (fun p23 => ?_)
  refine s_putR (fin := true) hG kFc0_18 rfl (fun _ => ⟨rfl, rfl⟩) rfl (fun v => by cases v <;> rfl) (fun v => by cases v <;> rfl) dc0_init_25 (fun σ25 => ?_)
  exact s_vret hG dc0_init_28 rfl (Nat.le_of_ble_eq_true rfl) (Nat.le_of_ble_eq_true rfl)
def fc10_init (N : Nat) (a0 : Nat) (σ : Me) : Option (Unit × Me) :=
  (newA σ .byte (240 : Int32) 240).bind fun p8 =>
  (pR p8.2 10 0 (some a0) (some p8.1)).bind fun σ10 =>
  some ((), σ10)
set_option maxRecDepth 20000 in
set_option maxHeartbeats 2000000 in
theorem corc10_init {Ω : Om} (N : Nat) (a0 : Nat) (σ : Me) : Cor Ω tc10_init 1 1 240 [vR (some a0)] σ ιV (fc10_init N a0 σ) := by
  refine Cor.of (by decide +kernel) (Nat.le_of_ble_eq_true rfl) (fun Γ hG => ?_)
  unfold fc10_init
  show Sim Ω Γ 1 240 ιV 1 0 [(0, vR (some a0))] [] σ 0 0 _
  refine s_aload_n hG dc10_init_0 rfl ?_
  refine s_objInit hG kOc10_3 kOi kOc rfl (by decide) dc10_init_1 (Nat.le_of_ble_eq_true rfl) ?_
  refine s_aload_n hG dc10_init_4 rfl ?_
  refine s_sipush (v := 240) hG dc10_init_5 (by decide) ?_
  refine s_newarr hG 1 rfl rfl (by simp) kA_byte (by decide) dc10_init_8 ⟨Nat.le_of_ble_eq_true rfl, Nat.le_of_ble_eq_true rfl⟩ (fun p8 => ?_)
  refine s_putR (fin := true) hG kFc10_9 rfl (fun _ => ⟨rfl, rfl⟩) rfl (fun v => by cases v <;> rfl) (fun v => by cases v <;> rfl) dc10_init_10 (fun σ10 => ?_)
  exact s_vret hG dc10_init_13 rfl (Nat.le_of_ble_eq_true rfl) (Nat.le_of_ble_eq_true rfl)
def fc1_init (N : Nat) (a0 : Nat) (σ : Me) : Option (Unit × Me) :=
  (newA σ .int (10 : Int32) 10).bind fun p7 =>
  (pR p7.2 1 0 (some a0) (some p7.1)).bind fun σ9 =>
  (newA σ9 .int (10 : Int32) 10).bind fun p15 =>
  (pR p15.2 1 1 (some a0) (some p15.1)).bind fun σ17 =>
  (newA σ17 .int (10 : Int32) 10).bind fun p23 =>
  (pR p23.2 1 2 (some a0) (some p23.1)).bind fun σ25 =>
  (newA σ25 .boolean (10 : Int32) 10).bind fun p31 =>
  (pR p31.2 1 3 (some a0) (some p31.1)).bind fun σ33 =>
  (newA σ33 .boolean (100 : Int32) 100).bind fun p39 =>
  (pR p39.2 1 5 (some a0) (some p39.1)).bind fun σ41 =>
  (newA σ41 .int (100 : Int32) 100).bind fun p47 =>
  (pR p47.2 1 6 (some a0) (some p47.1)).bind fun σ49 =>
  (newA σ49 .int (100 : Int32) 100).bind fun p55 =>
  (pR p55.2 1 7 (some a0) (some p55.1)).bind fun σ57 =>
  (newA σ57 .int (100 : Int32) 100).bind fun p63 =>
  (pR p63.2 1 8 (some a0) (some p63.1)).bind fun σ65 =>
  some ((), σ65)
set_option maxRecDepth 20000 in
set_option maxHeartbeats 2000000 in
theorem corc1_init {Ω : Om} (N : Nat) (a0 : Nat) (σ : Me) : Cor Ω tc1_init 1 8 440 [vR (some a0)] σ ιV (fc1_init N a0 σ) := by
  refine Cor.of (by decide +kernel) (Nat.le_of_ble_eq_true rfl) (fun Γ hG => ?_)
  unfold fc1_init
  show Sim Ω Γ 8 440 ιV 1 0 [(0, vR (some a0))] [] σ 0 0 _
  refine s_aload_n hG dc1_init_0 rfl ?_
  refine s_objInit hG kOc1_3 kOi kOc rfl (by decide) dc1_init_1 (Nat.le_of_ble_eq_true rfl) ?_
  refine s_aload_n hG dc1_init_4 rfl ?_
  refine s_bipush (v := 10) hG dc1_init_5 (by decide) ?_
  refine s_newarr hG 0 rfl rfl (by simp) kA_int (by decide) dc1_init_7 ⟨Nat.le_of_ble_eq_true rfl, Nat.le_of_ble_eq_true rfl⟩ (fun p7 => ?_)
  refine s_putR (fin := true) hG kFc1_11 rfl (fun _ => ⟨rfl, rfl⟩) rfl (fun v => by cases v <;> rfl) (fun v => by cases v <;> rfl) dc1_init_9 (fun σ9 => ?_)
  refine s_aload_n hG dc1_init_12 rfl ?_
  refine s_bipush (v := 10) hG dc1_init_13 (by decide) ?_
  refine s_newarr hG 0 rfl rfl (by simp) kA_int (by decide) dc1_init_15 ⟨Nat.le_of_ble_eq_true rfl, Nat.le_of_ble_eq_true rfl⟩ (fun p15 => ?_)
  refine s_putR (fin := true) hG kFc1_15 rfl (fun _ => ⟨rfl, rfl⟩) rfl (fun v => by cases v <;> rfl) (fun v => by cases v <;> rfl) dc1_init_17 (fun σ17 => ?_)
  refine s_aload_n hG dc1_init_20 rfl ?_
  refine s_bipush (v := 10) hG dc1_init_21 (by decide) ?_
  refine s_newarr hG 0 rfl rfl (by simp) kA_int (by decide) dc1_init_23 ⟨Nat.le_of_ble_eq_true rfl, Nat.le_of_ble_eq_true rfl⟩ (fun p23 => ?_)
  refine s_putR (fin := true) hG kFc1_18 rfl (fun _ => ⟨rfl, rfl⟩) rfl (fun v => by cases v <;> rfl) (fun v => by cases v <;> rfl) dc1_init_25 (fun σ25 => ?_)
  refine s_aload_n hG dc1_init_28 rfl ?_
  refine s_bipush (v := 10) hG dc1_init_29 (by decide) ?_
  refine s_newarr hG 2 rfl rfl (by simp) kA_boolean (by decide) dc1_init_31 ⟨Nat.le_of_ble_eq_true rfl, Nat.le_of_ble_eq_true rfl⟩ (fun p31 => ?_)
  refine s_putR (fin := true) hG kFc1_21 rfl (fun _ => ⟨rfl, rfl⟩) rfl (fun v => by cases v <;> rfl) (fun v => by cases v <;> rfl) dc1_init_33 (fun σ33 => ?_)
  refine s_aload_n hG dc1_init_36 rfl ?_
  refine s_bipush (v := 100) hG dc1_init_37 (by decide) ?_
  refine s_newarr hG 2 rfl rfl (by simp) kA_boolean (by decide) dc1_init_39 ⟨Nat.le_of_ble_eq_true rfl, Nat.le_of_ble_eq_true rfl⟩ (fun p39 => ?_)
  refine s_putR (fin := true) hG kFc1_25 rfl (fun _ => ⟨rfl, rfl⟩) rfl (fun v => by cases v <;> rfl) (fun v => by cases v <;> rfl) dc1_init_41 (fun σ41 => ?_)
  refine s_aload_n hG dc1_init_44 rfl ?_
  refine s_bipush (v := 100) hG dc1_init_45 (by decide) ?_
  refine s_newarr hG 0 rfl rfl (by simp) kA_int (by decide) dc1_init_47 ⟨Nat.le_of_ble_eq_true rfl, Nat.le_of_ble_eq_true rfl⟩ (fun p47 => ?_)
  refine s_putR (fin := true) hG kFc1_28 rfl (fun _ => ⟨rfl, rfl⟩) rfl (fun v => by cases v <;> rfl) (fun v => by cases v <;> rfl) dc1_init_49 (fun σ49 => ?_)
  refine s_aload_n hG dc1_init_52 rfl ?_
  refine s_bipush (v := 100) hG dc1_init_53 (by decide) ?_
  refine s_newarr hG 0 rfl rfl (by simp) kA_int (by decide) dc1_init_55 ⟨Nat.le_of_ble_eq_true rfl, Nat.le_of_ble_eq_true rfl⟩ (fun p55 => ?_)
  refine s_putR (fin := true) hG kFc1_31 rfl (fun _ => ⟨rfl, rfl⟩) rfl (fun v => by cases v <;> rfl) (fun v => by cases v <;> rfl) dc1_init_57 (fun σ57 => ?_)
  refine s_aload_n hG dc1_init_60 rfl ?_
  refine s_bipush (v := 100) hG dc1_init_61 (by decide) ?_
  refine s_newarr hG 0 rfl rfl (by simp) kA_int (by decide) dc1_init_63 ⟨Nat.le_of_ble_eq_true rfl, Nat.le_of_ble_eq_true rfl⟩ (fun p63 => ?_)
  refine s_putR (fin := true) hG kFc1_34 rfl (fun _ => ⟨rfl, rfl⟩) rfl (fun v => by cases v <;> rfl) (fun v => by cases v <;> rfl) dc1_init_65 (fun σ65 => ?_)
  exact s_vret hG dc1_init_68 rfl (Nat.le_of_ble_eq_true rfl) (Nat.le_of_ble_eq_true rfl)
def fc2_init (N : Nat) (a0 : Nat) (σ : Me) : Option (Unit × Me) :=
  (newA σ .int (6 : Int32) 6).bind fun p7 =>
  (pR p7.2 2 0 (some a0) (some p7.1)).bind fun σ9 =>
  (newA σ9 .int (6 : Int32) 6).bind fun p15 =>
  (pR p15.2 2 1 (some a0) (some p15.1)).bind fun σ17 =>
  (newA σ17 .int (6 : Int32) 6).bind fun p23 =>
  (pR p23.2 2 2 (some a0) (some p23.1)).bind fun σ25 =>
  (newA σ25 .int (6 : Int32) 6).bind fun p31 =>
  (pR p31.2 2 3 (some a0) (some p31.1)).bind fun σ33 =>
  (newA σ33 .int (6 : Int32) 6).bind fun p39 =>
  (pR p39.2 2 4 (some a0) (some p39.1)).bind fun σ41 =>
  some ((), σ41)
set_option maxRecDepth 20000 in
set_option maxHeartbeats 2000000 in
theorem corc2_init {Ω : Om} (N : Nat) (a0 : Nat) (σ : Me) : Cor Ω tc2_init 1 5 30 [vR (some a0)] σ ιV (fc2_init N a0 σ) := by
  refine Cor.of (by decide +kernel) (Nat.le_of_ble_eq_true rfl) (fun Γ hG => ?_)
  unfold fc2_init
  show Sim Ω Γ 5 30 ιV 1 0 [(0, vR (some a0))] [] σ 0 0 _
  refine s_aload_n hG dc2_init_0 rfl ?_
  refine s_objInit hG kOc2_3 kOi kOc rfl (by decide) dc2_init_1 (Nat.le_of_ble_eq_true rfl) ?_
  refine s_aload_n hG dc2_init_4 rfl ?_
  refine s_bipush (v := 6) hG dc2_init_5 (by decide) ?_
  refine s_newarr hG 0 rfl rfl (by simp) kA_int (by decide) dc2_init_7 ⟨Nat.le_of_ble_eq_true rfl, Nat.le_of_ble_eq_true rfl⟩ (fun p7 => ?_)
  refine s_putR (fin := true) hG kFc2_9 rfl (fun _ => ⟨rfl, rfl⟩) rfl (fun v => by cases v <;> rfl) (fun v => by cases v <;> rfl) dc2_init_9 (fun σ9 => ?_)
  refine s_aload_n hG dc2_init_12 rfl ?_
  refine s_bipush (v := 6) hG dc2_init_13 (by decide) ?_
  refine s_newarr hG 0 rfl rfl (by simp) kA_int (by decide) dc2_init_15 ⟨Nat.le_of_ble_eq_true rfl, Nat.le_of_ble_eq_true rfl⟩ (fun p15 => ?_)
  refine s_putR (fin := true) hG kFc2_15 rfl (fun _ => ⟨rfl, rfl⟩) rfl (fun v => by cases v <;> rfl) (fun v => by cases v <;> rfl) dc2_init_17 (fun σ17 => ?_)
  refine s_aload_n hG dc2_init_20 rfl ?_
  refine s_bipush (v := 6) hG dc2_init_21 (by decide) ?_
  refine s_newarr hG 0 rfl rfl (by simp) kA_int (by decide) dc2_init_23 ⟨Nat.le_of_ble_eq_true rfl, Nat.le_of_ble_eq_true rfl⟩ (fun p23 => ?_)
  refine s_putR (fin := true) hG kFc2_18 rfl (fun _ => ⟨rfl, rfl⟩) rfl (fun v => by cases v <;> rfl) (fun v => by cases v <;> rfl) dc2_init_25 (fun σ25 => ?_)
  refine s_aload_n hG dc2_init_28 rfl ?_
  refine s_bipush (v := 6) hG dc2_init_29 (by decide) ?_
  refine s_newarr hG 0 rfl rfl (by simp) kA_int (by decide) dc2_init_31 ⟨Nat.le_of_ble_eq_true rfl, Nat.le_of_ble_eq_true rfl⟩ (fun p31 => ?_)
  refine s_putR (fin := true) hG kFc2_21 rfl (fun _ => ⟨rfl, rfl⟩) rfl (fun v => by cases v <;> rfl) (fun v => by cases v <;> rfl) dc2_init_33 (fun σ33 => ?_)
  refine s_aload_n hG dc2_init_36 rfl ?_
  refine s_bipush (v := 6) hG dc2_init_37 (by decide) ?_
  refine s_newarr hG 0 rfl rfl (by simp) kA_int (by decide) dc2_init_39 ⟨Nat.le_of_ble_eq_true rfl, Nat.le_of_ble_eq_true rfl⟩ (fun p39 => ?_)
  refine s_putR (fin := true) hG kFc2_24 rfl (fun _ => ⟨rfl, rfl⟩) rfl (fun v => by cases v <;> rfl) (fun v => by cases v <;> rfl) dc2_init_41 (fun σ41 => ?_)
  exact s_vret hG dc2_init_44 rfl (Nat.le_of_ble_eq_true rfl) (Nat.le_of_ble_eq_true rfl)
def fc4_init (N : Nat) (a0 : Nat) (x1 : Option Nat) (σ : Me) : Option (Unit × Me) :=
  (newA σ .int (240 : Int32) 240).bind fun p8 =>
  (pR p8.2 4 1 (some a0) (some p8.1)).bind fun σ10 =>
  (pR σ10 4 0 (some a0) x1).bind fun σ15 =>
  some ((), σ15)
set_option maxRecDepth 20000 in
set_option maxHeartbeats 2000000 in
theorem corc4_init {Ω : Om} (N : Nat) (a0 : Nat) (x1 : Option Nat) (σ : Me) : Cor Ω tc4_init 1 1 240 [vR (some a0), vR x1] σ ιV (fc4_init N a0 x1 σ) := by
  refine Cor.of (by decide +kernel) (Nat.le_of_ble_eq_true rfl) (fun Γ hG => ?_)
  unfold fc4_init
  show Sim Ω Γ 1 240 ιV 2 0 [(0, vR (some a0)), (1, vR x1)] [] σ 0 0 _
  refine s_aload_n hG dc4_init_0 rfl ?_
  refine s_objInit hG kOc4_3 kOi kOc rfl (by decide) dc4_init_1 (Nat.le_of_ble_eq_true rfl) ?_
  refine s_aload_n hG dc4_init_4 rfl ?_
  refine s_sipush (v := 240) hG dc4_init_5 (by decide) ?_
  refine s_newarr hG 0 rfl rfl (by simp) kA_int (by decide) dc4_init_8 ⟨Nat.le_of_ble_eq_true rfl, Nat.le_of_ble_eq_true rfl⟩ (fun p8 => ?_)
  refine s_putR (fin := true) hG kFc4_9 rfl (fun _ => ⟨rfl, rfl⟩) rfl (fun v => by cases v <;> rfl) (fun v => by cases v <;> rfl) dc4_init_10 (fun σ10 => ?_)
  refine s_aload_n hG dc4_init_13 rfl ?_
  refine s_aload_n hG dc4_init_14 rfl ?_
  refine s_putR (fin := true) hG kFc4_15 rfl (fun _ => ⟨rfl, rfl⟩) rfl (fun v => by cases v <;> rfl) (fun v => by cases v <;> rfl) dc4_init_15 (fun σ15 => ?_)
  exact s_vret hG dc4_init_18 rfl (Nat.le_of_ble_eq_true rfl) (Nat.le_of_ble_eq_true rfl)
def fc5_init (N : Nat) (a0 : Nat) (σ : Me) : Option (Unit × Me) :=
  (newA σ .int (1040 : Int32) 1040).bind fun p8 =>
  (pR p8.2 5 0 (some a0) (some p8.1)).bind fun σ10 =>
  (newA σ10 .int (26 : Int32) 26).bind fun p16 =>
  (pR p16.2 5 3 (some a0) (some p16.1)).bind fun σ18 =>
  (newO σ18 0).bind fun p22 =>
  (fc0_init N p22.1 p22.2).bind fun p26 =>
  (pR p26.2 5 4 (some a0) (some p22.1)).bind fun σ29 =>
  some ((), σ29)
set_option maxRecDepth 20000 in
set_option maxHeartbeats 2000000 in
theorem corc5_init {Ω : Om} (N : Nat) (a0 : Nat) (σ : Me) : Cor Ω tc5_init 2 6 1369 [vR (some a0)] σ ιV (fc5_init N a0 σ) := by
  refine Cor.of (by decide +kernel) (Nat.le_of_ble_eq_true rfl) (fun Γ hG => ?_)
  unfold fc5_init
  show Sim Ω Γ 6 1369 ιV 1 0 [(0, vR (some a0))] [] σ 0 0 _
  refine s_aload_n hG dc5_init_0 rfl ?_
  refine s_objInit hG kOc5_1 kOi kOc rfl (by decide) dc5_init_1 (Nat.le_of_ble_eq_true rfl) ?_
  refine s_aload_n hG dc5_init_4 rfl ?_
  refine s_sipush (v := 1040) hG dc5_init_5 (by decide) ?_
  refine s_newarr hG 0 rfl rfl (by simp) kA_int (by decide) dc5_init_8 ⟨Nat.le_of_ble_eq_true rfl, Nat.le_of_ble_eq_true rfl⟩ (fun p8 => ?_)
  refine s_putR (fin := true) hG kFc5_11 rfl (fun _ => ⟨rfl, rfl⟩) rfl (fun v => by cases v <;> rfl) (fun v => by cases v <;> rfl) dc5_init_10 (fun σ10 => ?_)
  refine s_aload_n hG dc5_init_13 rfl ?_
  refine s_bipush (v := 26) hG dc5_init_14 (by decide) ?_
  refine s_newarr hG 0 rfl rfl (by simp) kA_int (by decide) dc5_init_16 ⟨Nat.le_of_ble_eq_true rfl, Nat.le_of_ble_eq_true rfl⟩ (fun p16 => ?_)
  refine s_putR (fin := true) hG kFc5_15 rfl (fun _ => ⟨rfl, rfl⟩) rfl (fun v => by cases v <;> rfl) (fun v => by cases v <;> rfl) dc5_init_18 (fun σ18 => ?_)
  refine s_aload_n hG dc5_init_21 rfl ?_
  refine s_new hG kNc5_18 dc5_init_22 ⟨Nat.le_of_ble_eq_true rfl, Nat.le_of_ble_eq_true rfl⟩ (fun p22 => ?_)
  refine s_dup hG dc5_init_25 rfl ?_
  refine s_callNv hG kMc5_20 (corc0_init N _ _) rfl (by first | decide | omega) dc5_init_26 rfl rfl (Nat.le_of_ble_eq_true rfl) ⟨Nat.le_of_ble_eq_true rfl, Nat.le_of_ble_eq_true rfl⟩ (fun p26 => ?_)
  refine s_putR (fin := true) hG kFc5_21 rfl (fun _ => ⟨rfl, rfl⟩) rfl (fun v => by cases v <;> rfl) (fun v => by cases v <;> rfl) dc5_init_29 (fun σ29 => ?_)
  exact s_vret hG dc5_init_32 rfl (Nat.le_of_ble_eq_true rfl) (Nat.le_of_ble_eq_true rfl)
def fc6_init (N : Nat) (a0 : Nat) (x1 : Option Nat) (σ : Me) : Option (Unit × Me) :=
  (aLn σ .int (some 1000001)).bind fun v8 =>
  (newA σ .int v8 1000).bind fun p9 =>
  (pR p9.2 6 1 (some a0) (some p9.1)).bind fun σ11 =>
  (newO σ11 2).bind fun p15 =>
  (fc2_init N p15.1 p15.2).bind fun p19 =>
  (pR p19.2 6 3 (some a0) (some p15.1)).bind fun σ22 =>
  (pR σ22 6 0 (some a0) x1).bind fun σ27 =>
  some ((), σ27)
set_option maxRecDepth 20000 in
set_option maxHeartbeats 2000000 in
theorem corc6_init {Ω : Om} (N : Nat) (a0 : Nat) (x1 : Option Nat) (σ : Me) : Cor Ω tc6_init 2 7 1040 [vR (some a0), vR x1] σ ιV (fc6_init N a0 x1 σ) := by
  refine Cor.of (by decide +kernel) (Nat.le_of_ble_eq_true rfl) (fun Γ hG => ?_)
  unfold fc6_init
  show Sim Ω Γ 7 1040 ιV 2 0 [(0, vR (some a0)), (1, vR x1)] [] σ 0 0 _
  refine s_aload_n hG dc6_init_0 rfl ?_
  refine s_objInit hG kOc6_3 kOi kOc rfl (by decide) dc6_init_1 (Nat.le_of_ble_eq_true rfl) ?_
  refine s_aload_n hG dc6_init_4 rfl ?_
  refine s_gets hG 1 (by decide) kSc6_9 dc6_init_5 ?_
  refine s_alen hG 0 rfl dc6_init_8 (fun v8 => ?_)
  refine s_newarr hG 0 rfl rfl (by simp) kA_int (by decide) dc6_init_9 ⟨Nat.le_of_ble_eq_true rfl, Nat.le_of_ble_eq_true rfl⟩ (fun p9 => ?_)
  refine s_putR (fin := true) hG kFc6_15 rfl (fun _ => ⟨rfl, rfl⟩) rfl (fun v => by cases v <;> rfl) (fun v => by cases v <;> rfl) dc6_init_11 (fun σ11 => ?_)
  refine s_aload_n hG dc6_init_14 rfl ?_
  refine s_new hG kNc6_18 dc6_init_15 ⟨Nat.le_of_ble_eq_true rfl, Nat.le_of_ble_eq_true rfl⟩ (fun p15 => ?_)
  refine s_dup hG dc6_init_18 rfl ?_
  refine s_callNv hG kMc6_20 (corc2_init N _ _) rfl (by first | decide | omega) dc6_init_19 rfl rfl (Nat.le_of_ble_eq_true rfl) ⟨Nat.le_of_ble_eq_true rfl, Nat.le_of_ble_eq_true rfl⟩ (fun p19 => ?_)
  refine s_putR (fin := true) hG kFc6_21 rfl (fun _ => ⟨rfl, rfl⟩) rfl (fun v => by cases v <;> rfl) (fun v => by cases v <;> rfl) dc6_init_22 (fun σ22 => ?_)
  refine s_aload_n hG dc6_init_25 rfl ?_
  refine s_aload_n hG dc6_init_26 rfl ?_
  refine s_putR (fin := true) hG kFc6_25 rfl (fun _ => ⟨rfl, rfl⟩) rfl (fun v => by cases v <;> rfl) (fun v => by cases v <;> rfl) dc6_init_27 (fun σ27 => ?_)
  exact s_vret hG dc6_init_30 rfl (Nat.le_of_ble_eq_true rfl) (Nat.le_of_ble_eq_true rfl)
def fc8_init (N : Nat) (a0 : Nat) (x1 : Option Nat) (σ : Me) : Option (Unit × Me) :=
  (newA σ .int (16 : Int32) 16).bind fun p7 =>
  (pR p7.2 8 1 (some a0) (some p7.1)).bind fun σ9 =>
  (newA σ9 .int (16 : Int32) 16).bind fun p15 =>
  (pR p15.2 8 2 (some a0) (some p15.1)).bind fun σ17 =>
  (newA σ17 .int (16 : Int32) 16).bind fun p23 =>
  (pR p23.2 8 3 (some a0) (some p23.1)).bind fun σ25 =>
  (pR σ25 8 0 (some a0) x1).bind fun σ30 =>
  some ((), σ30)
set_option maxRecDepth 20000 in
set_option maxHeartbeats 2000000 in
theorem corc8_init {Ω : Om} (N : Nat) (a0 : Nat) (x1 : Option Nat) (σ : Me) : Cor Ω tc8_init 1 3 48 [vR (some a0), vR x1] σ ιV (fc8_init N a0 x1 σ) := by
  refine Cor.of (by decide +kernel) (Nat.le_of_ble_eq_true rfl) (fun Γ hG => ?_)
  unfold fc8_init
  show Sim Ω Γ 3 48 ιV 2 0 [(0, vR (some a0)), (1, vR x1)] [] σ 0 0 _
  refine s_aload_n hG dc8_init_0 rfl ?_
  refine s_objInit hG kOc8_3 kOi kOc rfl (by decide) dc8_init_1 (Nat.le_of_ble_eq_true rfl) ?_
  refine s_aload_n hG dc8_init_4 rfl ?_
  refine s_bipush (v := 16) hG dc8_init_5 (by decide) ?_
  refine s_newarr hG 0 rfl rfl (by simp) kA_int (by decide) dc8_init_7 ⟨Nat.le_of_ble_eq_true rfl, Nat.le_of_ble_eq_true rfl⟩ (fun p7 => ?_)
  refine s_putR (fin := true) hG kFc8_11 rfl (fun _ => ⟨rfl, rfl⟩) rfl (fun v => by cases v <;> rfl) (fun v => by cases v <;> rfl) dc8_init_9 (fun σ9 => ?_)
  refine s_aload_n hG dc8_init_12 rfl ?_
  refine s_bipush (v := 16) hG dc8_init_13 (by decide) ?_
  refine s_newarr hG 0 rfl rfl (by simp) kA_int (by decide) dc8_init_15 ⟨Nat.le_of_ble_eq_true rfl, Nat.le_of_ble_eq_true rfl⟩ (fun p15 => ?_)
  refine s_putR (fin := true) hG kFc8_17 rfl (fun _ => ⟨rfl, rfl⟩) rfl (fun v => by cases v <;> rfl) (fun v => by cases v <;> rfl) dc8_init_17 (fun σ17 => ?_)
  refine s_aload_n hG dc8_init_20 rfl ?_
  refine s_bipush (v := 16) hG dc8_init_21 (by decide) ?_
  refine s_newarr hG 0 rfl rfl (by simp) kA_int (by decide) dc8_init_23 ⟨Nat.le_of_ble_eq_true rfl, Nat.le_of_ble_eq_true rfl⟩ (fun p23 => ?_)
  refine s_putR (fin := true) hG kFc8_20 rfl (fun _ => ⟨rfl, rfl⟩) rfl (fun v => by cases v <;> rfl) (fun v => by cases v <;> rfl) dc8_init_25 (fun σ25 => ?_)
  refine s_aload_n hG dc8_init_28 rfl ?_
  refine s_aload_n hG dc8_init_29 rfl ?_
  refine s_putR (fin := true) hG kFc8_23 rfl (fun _ => ⟨rfl, rfl⟩) rfl (fun v => by cases v <;> rfl) (fun v => by cases v <;> rfl) dc8_init_30 (fun σ30 => ?_)
  exact s_vret hG dc8_init_33 rfl (Nat.le_of_ble_eq_true rfl) (Nat.le_of_ble_eq_true rfl)
def fc9_init (N : Nat) (a0 : Nat) (σ : Me) : Option (Unit × Me) :=
  (newA σ .int (6 : Int32) 6).bind fun p7 =>
  (pR p7.2 9 1 (some a0) (some p7.1)).bind fun σ9 =>
  (newA σ9 .int (6 : Int32) 6).bind fun p15 =>
  (pR p15.2 9 2 (some a0) (some p15.1)).bind fun σ17 =>
  (newA σ17 .int (6 : Int32) 6).bind fun p23 =>
  (pR p23.2 9 3 (some a0) (some p23.1)).bind fun σ25 =>
  (newA σ25 .int (6 : Int32) 6).bind fun p31 =>
  (pR p31.2 9 4 (some a0) (some p31.1)).bind fun σ33 =>
  (newA σ33 .int (6 : Int32) 6).bind fun p39 =>
  (pR p39.2 9 5 (some a0) (some p39.1)).bind fun σ41 =>
  some ((), σ41)
set_option maxRecDepth 20000 in
set_option maxHeartbeats 2000000 in
theorem corc9_init {Ω : Om} (N : Nat) (a0 : Nat) (σ : Me) : Cor Ω tc9_init 1 5 30 [vR (some a0)] σ ιV (fc9_init N a0 σ) := by
  refine Cor.of (by decide +kernel) (Nat.le_of_ble_eq_true rfl) (fun Γ hG => ?_)
  unfold fc9_init
  show Sim Ω Γ 5 30 ιV 1 0 [(0, vR (some a0))] [] σ 0 0 _
  refine s_aload_n hG dc9_init_0 rfl ?_
  refine s_objInit hG kOc9_3 kOi kOc rfl (by decide) dc9_init_1 (Nat.le_of_ble_eq_true rfl) ?_
  refine s_aload_n hG dc9_init_4 rfl ?_
  refine s_bipush (v := 6) hG dc9_init_5 (by decide) ?_
  refine s_newarr hG 0 rfl rfl (by simp) kA_int (by decide) dc9_init_7 ⟨Nat.le_of_ble_eq_true rfl, Nat.le_of_ble_eq_true rfl⟩ (fun p7 => ?_)
  refine s_putR (fin := true) hG kFc9_9 rfl (fun _ => ⟨rfl, rfl⟩) rfl (fun v => by cases v <;> rfl) (fun v => by cases v <;> rfl) dc9_init_9 (fun σ9 => ?_)
  refine s_aload_n hG dc9_init_12 rfl ?_
  refine s_bipush (v := 6) hG dc9_init_13 (by decide) ?_
  refine s_newarr hG 0 rfl rfl (by simp) kA_int (by decide) dc9_init_15 ⟨Nat.le_of_ble_eq_true rfl, Nat.le_of_ble_eq_true rfl⟩ (fun p15 => ?_)
  refine s_putR (fin := true) hG kFc9_15 rfl (fun _ => ⟨rfl, rfl⟩) rfl (fun v => by cases v <;> rfl) (fun v => by cases v <;> rfl) dc9_init_17 (fun σ17 => ?_)
  refine s_aload_n hG dc9_init_20 rfl ?_
  refine s_bipush (v := 6) hG dc9_init_21 (by decide) ?_
  refine s_newarr hG 0 rfl rfl (by simp) kA_int (by decide) dc9_init_23 ⟨Nat.le_of_ble_eq_true rfl, Nat.le_of_ble_eq_true rfl⟩ (fun p23 => ?_)
  refine s_putR (fin := true) hG kFc9_18 rfl (fun _ => ⟨rfl, rfl⟩) rfl (fun v => by cases v <;> rfl) (fun v => by cases v <;> rfl) dc9_init_25 (fun σ25 => ?_)
  refine s_aload_n hG dc9_init_28 rfl ?_
  refine s_bipush (v := 6) hG dc9_init_29 (by decide) ?_
  refine s_newarr hG 0 rfl rfl (by simp) kA_int (by decide) dc9_init_31 ⟨Nat.le_of_ble_eq_true rfl, Nat.le_of_ble_eq_true rfl⟩ (fun p31 => ?_)
  refine s_putR (fin := true) hG kFc9_21 rfl (fun _ => ⟨rfl, rfl⟩) rfl (fun v => by cases v <;> rfl) (fun v => by cases v <;> rfl) dc9_init_33 (fun σ33 => ?_)
  refine s_aload_n hG dc9_init_36 rfl ?_
  refine s_bipush (v := 6) hG dc9_init_37 (by decide) ?_
  refine s_newarr hG 0 rfl rfl (by simp) kA_int (by decide) dc9_init_39 ⟨Nat.le_of_ble_eq_true rfl, Nat.le_of_ble_eq_true rfl⟩ (fun p39 => ?_)
  refine s_putR (fin := true) hG kFc9_24 rfl (fun _ => ⟨rfl, rfl⟩) rfl (fun v => by cases v <;> rfl) (fun v => by cases v <;> rfl) dc9_init_41 (fun σ41 => ?_)
  exact s_vret hG dc9_init_44 rfl (Nat.le_of_ble_eq_true rfl) (Nat.le_of_ble_eq_true rfl)
def fc11_init (N : Nat) (a0 : Nat) (σ : Me) : Option (Unit × Me) :=
  (newO σ 10).bind fun p5 =>
  (fc10_init N p5.1 p5.2).bind fun p9 =>
  (pR p9.2 11 0 (some a0) (some p5.1)).bind fun σ12 =>
  (newO σ12 6).bind fun p16 =>
  (qR p16.2 11 0 (some a0)).bind fun v21 =>
  (fc6_init N p16.1 v21 p16.2).bind fun p24 =>
  (pR p24.2 11 1 (some a0) (some p16.1)).bind fun σ27 =>
  (newO σ27 4).bind fun p31 =>
  (qR p31.2 11 0 (some a0)).bind fun v36 =>
  (fc4_init N p31.1 v36 p31.2).bind fun p39 =>
  (pR p39.2 11 2 (some a0) (some p31.1)).bind fun σ42 =>
  (newO σ42 8).bind fun p46 =>
  (qR p46.2 11 0 (some a0)).bind fun v51 =>
  (fc8_init N p46.1 v51 p46.2).bind fun p54 =>
  (pR p54.2 11 3 (some a0) (some p46.1)).bind fun σ57 =>
  (newA σ57 (.object "RainOwed$Law") (4 : Int32) 4).bind fun p62 =>
  (pR p62.2 11 4 (some a0) (some p62.1)).bind fun σ65 =>
  (newA σ65 (.object "RainOwed$Plan") (4 : Int32) 4).bind fun p70 =>
  (pR p70.2 11 5 (some a0) (some p70.1)).bind fun σ73 =>
  (pI σ73 11 8 (some a0) (-1 : Int32)).bind fun σ78 =>
  (newO σ78 2).bind fun p82 =>
  (fc2_init N p82.1 p82.2).bind fun p86 =>
  (pR p86.2 11 10 (some a0) (some p82.1)).bind fun σ89 =>
  (newO σ89 2).bind fun p93 =>
  (fc2_init N p93.1 p93.2).bind fun p97 =>
  (pR p97.2 11 11 (some a0) (some p93.1)).bind fun σ100 =>
  (newO σ100 9).bind fun p104 =>
  (fc9_init N p104.1 p104.2).bind fun p108 =>
  (pR p108.2 11 12 (some a0) (some p104.1)).bind fun σ111 =>
  (newO σ111 0).bind fun p115 =>
  (fc0_init N p115.1 p115.2).bind fun p119 =>
  (pR p119.2 11 13 (some a0) (some p115.1)).bind fun σ122 =>
  (newO σ122 5).bind fun p126 =>
  (fc5_init N p126.1 p126.2).bind fun p130 =>
  (pR p130.2 11 14 (some a0) (some p126.1)).bind fun σ133 =>
  (newO σ133 1).bind fun p137 =>
  (fc1_init N p137.1 p137.2).bind fun p141 =>
  (pR p141.2 11 15 (some a0) (some p137.1)).bind fun σ144 =>
  (newA σ144 .int (36 : Int32) 36).bind fun p150 =>
  (pR p150.2 11 16 (some a0) (some p150.1)).bind fun σ152 =>
  (newA σ152 .int (36 : Int32) 36).bind fun p158 =>
  (pR p158.2 11 17 (some a0) (some p158.1)).bind fun σ160 =>
  (newA σ160 .int (6 : Int32) 6).bind fun p166 =>
  (pR p166.2 11 18 (some a0) (some p166.1)).bind fun σ168 =>
  some ((), σ168)
set_option maxRecDepth 20000 in
set_option maxHeartbeats 2000000 in
theorem corc11_init {Ω : Om} (N : Nat) (a0 : Nat) (σ : Me) : Cor Ω tc11_init 3 59 3916 [vR (some a0)] σ ιV (fc11_init N a0 σ) := by
  refine Cor.of (by decide +kernel) (Nat.le_of_ble_eq_true rfl) (fun Γ hG => ?_)
  unfold fc11_init
  show Sim Ω Γ 59 3916 ιV 1 0 [(0, vR (some a0))] [] σ 0 0 _
  refine s_aload_n hG dc11_init_0 rfl ?_
  refine s_objInit hG kOc11_1 kOi kOc rfl (by decide) dc11_init_1 (Nat.le_of_ble_eq_true rfl) ?_
  refine s_aload_n hG dc11_init_4 rfl ?_
  refine s_new hG kNc11_7 dc11_init_5 ⟨Nat.le_of_ble_eq_true rfl, Nat.le_of_ble_eq_true rfl⟩ (fun p5 => ?_)
  refine s_dup hG dc11_init_8 rfl ?_
  refine s_callNv hG kMc11_9 (corc10_init N _ _) rfl (by first | decide | omega) dc11_init_9 rfl rfl (Nat.le_of_ble_eq_true rfl) ⟨Nat.le_of_ble_eq_true rfl, Nat.le_of_ble_eq_true rfl⟩ (fun p9 => ?_)
  refine s_putR (fin := true) hG kFc11_10 rfl (fun _ => ⟨rfl, rfl⟩) rfl (fun v => by cases v <;> rfl) (fun v => by cases v <;> rfl) dc11_init_12 (fun σ12 => ?_)
  refine s_aload_n hG dc11_init_15 rfl ?_
  refine s_new hG kNc11_16 dc11_init_16 ⟨Nat.le_of_ble_eq_true rfl, Nat.le_of_ble_eq_true rfl⟩ (fun p16 => ?_)
  refine s_dup hG dc11_init_19 rfl ?_
  refine s_aload_n hG dc11_init_20 rfl ?_
  refine s_getR hG kFc11_10 rfl dc11_init_21 (fun v21 => ?_)
  refine s_callIv hG kMc11_18 (corc6_init N _ _ _) rfl (by first | decide | omega) dc11_init_24 rfl rfl (Nat.le_of_ble_eq_true rfl) ⟨Nat.le_of_ble_eq_true rfl, Nat.le_of_ble_eq_true rfl⟩ (fun p24 => ?_)
  refine s_putR (fin := true) hG kFc11_21 rfl (fun _ => ⟨rfl, rfl⟩) rfl (fun v => by cases v <;> rfl) (fun v => by cases v <;> rfl) dc11_init_27 (fun σ27 => ?_)
  refine s_aload_n hG dc11_init_30 rfl ?_
  refine s_new hG kNc11_25 dc11_init_31 ⟨Nat.le_of_ble_eq_true rfl, Nat.le_of_ble_eq_true rfl⟩ (fun p31 => ?_)
  refine s_dup hG dc11_init_34 rfl ?_
  refine s_aload_n hG dc11_init_35 rfl ?_
  refine s_getR hG kFc11_10 rfl dc11_init_36 (fun v36 => ?_)
  refine s_callIv hG kMc11_27 (corc4_init N _ _ _) rfl (by first | decide | omega) dc11_init_39 rfl rfl (Nat.le_of_ble_eq_true rfl) ⟨Nat.le_of_ble_eq_true rfl, Nat.le_of_ble_eq_true rfl⟩ (fun p39 => ?_)
  refine s_putR (fin := true) hG kFc11_28 rfl (fun _ => ⟨rfl, rfl⟩) rfl (fun v => by cases v <;> rfl) (fun v => by cases v <;> rfl) dc11_init_42 (fun σ42 => ?_)
  refine s_aload_n hG dc11_init_45 rfl ?_
  refine s_new hG kNc11_32 dc11_init_46 ⟨Nat.le_of_ble_eq_true rfl, Nat.le_of_ble_eq_true rfl⟩ (fun p46 => ?_)
  refine s_dup hG dc11_init_49 rfl ?_
  refine s_aload_n hG dc11_init_50 rfl ?_
  refine s_getR hG kFc11_10 rfl dc11_init_51 (fun v51 => ?_)
  refine s_callIv hG kMc11_34 (corc8_init N _ _ _) rfl (by first | decide | omega) dc11_init_54 rfl rfl (Nat.le_of_ble_eq_true rfl) ⟨Nat.le_of_ble_eq_true rfl, Nat.le_of_ble_eq_true rfl⟩ (fun p54 => ?_)
  refine s_putR (fin := true) hG kFc11_35 rfl (fun _ => ⟨rfl, rfl⟩) rfl (fun v => by cases v <;> rfl) (fun v => by cases v <;> rfl) dc11_init_57 (fun σ57 => ?_)
  refine s_aload_n hG dc11_init_60 rfl ?_
  refine s_iconst (v := 4) hG dc11_init_61 (by decide) ?_
  refine s_anew hG 4 rfl (by decide) kHc11_39 (fun _ _ h => h.2.2.2.2.2.2.1) dc11_init_62 ⟨Nat.le_of_ble_eq_true rfl, Nat.le_of_ble_eq_true rfl⟩ (fun p62 => ?_)
  refine s_putR (fin := true) hG kFc11_41 rfl (fun _ => ⟨rfl, rfl⟩) rfl (fun v => by cases v <;> rfl) (fun v => by cases v <;> rfl) dc11_init_65 (fun σ65 => ?_)
  refine s_aload_n hG dc11_init_68 rfl ?_
  refine s_iconst (v := 4) hG dc11_init_69 (by decide) ?_
  refine s_anew hG 5 rfl (by decide) kHc11_45 (fun _ _ h => h.2.2.2.2.2.2.2.1) dc11_init_70 ⟨Nat.le_of_ble_eq_true rfl, Nat.le_of_ble_eq_true rfl⟩ (fun p70 => ?_)
  refine s_putR (fin := true) hG kFc11_47 rfl (fun _ => ⟨rfl, rfl⟩) rfl (fun v => by cases v <;> rfl) (fun v => by cases v <;> rfl) dc11_init_73 (fun σ73 => ?_)
  refine s_aload_n hG dc11_init_76 rfl ?_
  refine s_iconst (v := -1) hG dc11_init_77 (by decide) ?_
  refine s_putI (fin := false) hG kFc11_51 rfl (fun h => by cases h) rfl (fun _ => rfl) (fun _ => rfl) dc11_init_78 (fun σ78 => ?_)
  refine s_aload_n hG dc11_init_81 rfl ?_
  refine s_new hG kNc11_55 dc11_init_82 ⟨Nat.le_of_ble_eq_true rfl, Nat.le_of_ble_eq_true rfl⟩ (fun p82 => ?_)
  refine s_dup hG dc11_init_85 rfl ?_
  refine s_callNv hG kMc11_57 (corc2_init N _ _) rfl (by first | decide | omega) dc11_init_86 rfl rfl (Nat.le_of_ble_eq_true rfl) ⟨Nat.le_of_ble_eq_true rfl, Nat.le_of_ble_eq_true rfl⟩ (fun p86 => ?_)
  refine s_putR (fin := true) hG kFc11_58 rfl (fun _ => ⟨rfl, rfl⟩) rfl (fun v => by cases v <;> rfl) (fun v => by cases v <;> rfl) dc11_init_89 (fun σ89 => ?_)
  refine s_aload_n hG dc11_init_92 rfl ?_
  refine s_new hG kNc11_55 dc11_init_93 ⟨Nat.le_of_ble_eq_true rfl, Nat.le_of_ble_eq_true rfl⟩ (fun p93 => ?_)
  refine s_dup hG dc11_init_96 rfl ?_
  refine s_callNv hG kMc11_57 (corc2_init N _ _) rfl (by first | decide | omega) dc11_init_97 rfl rfl (Nat.le_of_ble_eq_true rfl) ⟨Nat.le_of_ble_eq_true rfl, Nat.le_of_ble_eq_true rfl⟩ (fun p97 => ?_)
  refine s_putR (fin := true) hG kFc11_62 rfl (fun _ => ⟨rfl, rfl⟩) rfl (fun v => by cases v <;> rfl) (fun v => by cases v <;> rfl) dc11_init_100 (fun σ100 => ?_)
  refine s_aload_n hG dc11_init_103 rfl ?_
  refine s_new hG kNc11_65 dc11_init_104 ⟨Nat.le_of_ble_eq_true rfl, Nat.le_of_ble_eq_true rfl⟩ (fun p104 => ?_)
  refine s_dup hG dc11_init_107 rfl ?_
  refine s_callNv hG kMc11_67 (corc9_init N _ _) rfl (by first | decide | omega) dc11_init_108 rfl rfl (Nat.le_of_ble_eq_true rfl) ⟨Nat.le_of_ble_eq_true rfl, Nat.le_of_ble_eq_true rfl⟩ (fun p108 => ?_)
  refine s_putR (fin := true) hG kFc11_68 rfl (fun _ => ⟨rfl, rfl⟩) rfl (fun v => by cases v <;> rfl) (fun v => by cases v <;> rfl) dc11_init_111 (fun σ111 => ?_)
  refine s_aload_n hG dc11_init_114 rfl ?_
  refine s_new hG kNc11_72 dc11_init_115 ⟨Nat.le_of_ble_eq_true rfl, Nat.le_of_ble_eq_true rfl⟩ (fun p115 => ?_)
  refine s_dup hG dc11_init_118 rfl ?_
  refine s_callNv hG kMc11_74 (corc0_init N _ _) rfl (by first | decide | omega) dc11_init_119 rfl rfl (Nat.le_of_ble_eq_true rfl) ⟨Nat.le_of_ble_eq_true rfl, Nat.le_of_ble_eq_true rfl⟩ (fun p119 => ?_)
  refine s_putR (fin := true) hG kFc11_75 rfl (fun _ => ⟨rfl, rfl⟩) rfl (fun v => by cases v <;> rfl) (fun v => by cases v <;> rfl) dc11_init_122 (fun σ122 => ?_)
  refine s_aload_n hG dc11_init_125 rfl ?_
  refine s_new hG kNc11_79 dc11_init_126 ⟨Nat.le_of_ble_eq_true rfl, Nat.le_of_ble_eq_true rfl⟩ (fun p126 => ?_)
  refine s_dup hG dc11_init_129 rfl ?_
  refine s_callNv hG kMc11_81 (corc5_init N _ _) rfl (by first | decide | omega) dc11_init_130 rfl rfl (Nat.le_of_ble_eq_true rfl) ⟨Nat.le_of_ble_eq_true rfl, Nat.le_of_ble_eq_true rfl⟩ (fun p130 => ?_)
  refine s_putR (fin := true) hG kFc11_82 rfl (fun _ => ⟨rfl, rfl⟩) rfl (fun v => by cases v <;> rfl) (fun v => by cases v <;> rfl) dc11_init_133 (fun σ133 => ?_)
  refine s_aload_n hG dc11_init_136 rfl ?_
  refine s_new hG kNc11_86 dc11_init_137 ⟨Nat.le_of_ble_eq_true rfl, Nat.le_of_ble_eq_true rfl⟩ (fun p137 => ?_)
  refine s_dup hG dc11_init_140 rfl ?_
  refine s_callNv hG kMc11_88 (corc1_init N _ _) rfl (by first | decide | omega) dc11_init_141 rfl rfl (Nat.le_of_ble_eq_true rfl) ⟨Nat.le_of_ble_eq_true rfl, Nat.le_of_ble_eq_true rfl⟩ (fun p141 => ?_)
  refine s_putR (fin := true) hG kFc11_89 rfl (fun _ => ⟨rfl, rfl⟩) rfl (fun v => by cases v <;> rfl) (fun v => by cases v <;> rfl) dc11_init_144 (fun σ144 => ?_)
  refine s_aload_n hG dc11_init_147 rfl ?_
  refine s_bipush (v := 36) hG dc11_init_148 (by decide) ?_
  refine s_newarr hG 0 rfl rfl (by simp) kA_int (by decide) dc11_init_150 ⟨Nat.le_of_ble_eq_true rfl, Nat.le_of_ble_eq_true rfl⟩ (fun p150 => ?_)
  refine s_putR (fin := true) hG kFc11_93 rfl (fun _ => ⟨rfl, rfl⟩) rfl (fun v => by cases v <;> rfl) (fun v => by cases v <;> rfl) dc11_init_152 (fun σ152 => ?_)
  refine s_aload_n hG dc11_init_155 rfl ?_
  refine s_bipush (v := 36) hG dc11_init_156 (by decide) ?_
  refine s_newarr hG 0 rfl rfl (by simp) kA_int (by decide) dc11_init_158 ⟨Nat.le_of_ble_eq_true rfl, Nat.le_of_ble_eq_true rfl⟩ (fun p158 => ?_)
  refine s_putR (fin := true) hG kFc11_97 rfl (fun _ => ⟨rfl, rfl⟩) rfl (fun v => by cases v <;> rfl) (fun v => by cases v <;> rfl) dc11_init_160 (fun σ160 => ?_)
  refine s_aload_n hG dc11_init_163 rfl ?_
  refine s_bipush (v := 6) hG dc11_init_164 (by decide) ?_
  refine s_newarr hG 0 rfl rfl (by simp) kA_int (by decide) dc11_init_166 ⟨Nat.le_of_ble_eq_true rfl, Nat.le_of_ble_eq_true rfl⟩ (fun p166 => ?_)
  refine s_putR (fin := true) hG kFc11_100 rfl (fun _ => ⟨rfl, rfl⟩) rfl (fun v => by cases v <;> rfl) (fun v => by cases v <;> rfl) dc11_init_168 (fun σ168 => ?_)
  exact s_vret hG dc11_init_171 rfl (Nat.le_of_ble_eq_true rfl) (Nat.le_of_ble_eq_true rfl)
def fc10_put_47 (N : Nat) (K3 : Option Nat → Int32 → Int32 → Me → Option (Unit × Me)) (l0 : Option Nat) (l1 : Int32) (l2 : Int32) (σ : Me) : Option (Unit × Me) :=
  K3 l0 l1 (l2 + (-8 : Int32)) σ
def fc10_put_3 (N : Nat) : Nat → Option Nat → Int32 → Int32 → Me → Option (Unit × Me)
  | 0, _, _, _, _ => none
  | n + 1, l0, l1, l2, σ =>
    if l2 < 0 then
      some ((), σ)
    else
      if ((((l1).toUInt32 >>> ((l2).toUInt32 &&& Int32.toUInt32 31)).toInt32) &&& (255 : Int32)) = 0 then
        fc10_put_47 N (fc10_put_3 N n) l0 l1 l2 σ
      else
        (qI σ 10 1 l0).bind fun v20 =>
        if (240 : Int32) ≤ v20 then
          fc10_put_47 N (fc10_put_3 N n) l0 l1 l2 σ
        else
          (qR σ 10 0 l0).bind fun v30 =>
          (qI σ 10 1 l0).bind fun v35 =>
          (pI σ 10 1 l0 (v35 + (1 : Int32))).bind fun σ41 =>
          (stB σ41 v30 v35 (Int8.toInt32 (Int32.toInt8 ((((l1).toUInt32 >>> ((l2).toUInt32 &&& Int32.toUInt32 31)).toInt32) &&& (255 : Int32))))).bind fun σ46 =>
          fc10_put_47 N (fc10_put_3 N n) l0 l1 l2 σ46
def fc10_put (N : Nat) (a0 : Nat) (x1 : Int32) (σ : Me) : Option (Unit × Me) :=
  fc10_put_3 N N (some a0) x1 (24 : Int32) σ
set_option maxRecDepth 20000 in
set_option maxHeartbeats 2000000 in
theorem pc10_put_47 {Ω : Om} {Γ : Ga} {N : Nat} (hG : Good Ω Γ tc10_put 1 0 0) {K3 : Option Nat → Int32 → Int32 → Me → Option (Unit × Me)} (hK3 : ∀ (l0 : Option Nat) (l1 : Int32) (l2 : Int32) (σ : Me), Sim Ω Γ 0 0 ιV 4 3 [(0, vR l0), (1, vI l1), (2, vI l2)] [] σ 0 0 (K3 l0 l1 l2 σ)) (l0 : Option Nat) (l1 : Int32) (l2 : Int32) (σ : Me) : Sim Ω Γ 0 0 ιV 4 47 [(0, vR l0), (1, vI l1), (2, vI l2)] [] σ 0 0 (fc10_put_47 N K3 l0 l1 l2 σ) := by
  unfold fc10_put_47
  refine s_iinc (v := -8) hG dc10_put_47 rfl (by decide) (by decide) ?_
  refine s_goto hG 3 dc10_put_50 (by decide) ?_
  exact s_lv (lc rfl (lc rfl (lc rfl ln))) (hK3 _ _ _ _)
set_option maxRecDepth 20000 in
set_option maxHeartbeats 2000000 in
theorem pc10_put_3 {Ω : Om} {Γ : Ga} {N : Nat} (hG : Good Ω Γ tc10_put 1 0 0)  : ∀ (n : Nat) (l0 : Option Nat) (l1 : Int32) (l2 : Int32) (σ : Me), Sim Ω Γ 0 0 ιV 4 3 [(0, vR l0), (1, vI l1), (2, vI l2)] [] σ 0 0 (fc10_put_3 N n l0 l1 l2 σ) := by
  intro n
  induction n with
  | zero => intros; exact s_none
  | succ n ih =>
    intro l0 l1 l2 σ
    unfold fc10_put_3
    refine s_iload_n hG dc10_put_3 rfl ?_
    refine s_if_lt hG 53 dc10_put_4 (by decide) ?_ ?_
    · exact s_vret hG dc10_put_53 rfl (Nat.le_of_ble_eq_true rfl) (Nat.le_of_ble_eq_true rfl)
    · refine s_iload_n hG dc10_put_7 rfl ?_
      refine s_iload_n hG dc10_put_8 rfl ?_
      refine s_iushr hG dc10_put_9 ?_
      refine s_sipush (v := 255) hG dc10_put_10 (by decide) ?_
      refine s_iand hG dc10_put_13 ?_
      refine s_istore_n hG dc10_put_14 (by decide) ?_
      refine s_iload_n hG dc10_put_15 rfl ?_
      refine s_if_eq hG 47 dc10_put_16 (by decide) ?_ ?_
      · exact s_lv (lc rfl (lc rfl (lc rfl ln))) (pc10_put_47 hG ih _ _ _ _)
      · refine s_aload_n hG dc10_put_19 rfl ?_
        refine s_getI hG kFc10_15 rfl dc10_put_20 (fun v20 => ?_)
        refine s_sipush (v := 240) hG dc10_put_23 (by decide) ?_
        refine s_icmp_ge hG 47 dc10_put_26 (by decide) ?_ ?_
        · exact s_lv (lc rfl (lc rfl (lc rfl ln))) (pc10_put_47 hG ih _ _ _ _)
        · refine s_aload_n hG dc10_put_29 rfl ?_
          refine s_getR hG kFc10_9 rfl dc10_put_30 (fun v30 => ?_)
          refine s_aload_n hG dc10_put_33 rfl ?_
          refine s_dup hG dc10_put_34 rfl ?_
          refine s_getI hG kFc10_15 rfl dc10_put_35 (fun v35 => ?_)
          refine s_dup_x1 hG dc10_put_38 rfl rfl ?_
          refine s_iconst (v := 1) hG dc10_put_39 (by decide) ?_
          refine s_iadd hG dc10_put_40 ?_
          refine s_putI (fin := false) hG kFc10_15 rfl (fun h => by cases h) rfl (fun _ => rfl) (fun _ => rfl) dc10_put_41 (fun σ41 => ?_)
          refine s_iload_n hG dc10_put_44 rfl ?_
          refine s_i2b hG dc10_put_45 ?_
          refine s_bast hG dc10_put_46 (fun σ46 => ?_)
          exact s_lv (lc rfl (lc rfl (lc rfl ln))) (pc10_put_47 hG ih _ _ _ _)
set_option maxRecDepth 20000 in
set_option maxHeartbeats 2000000 in
theorem corc10_put {Ω : Om} (N : Nat) (a0 : Nat) (x1 : Int32) (σ : Me) : Cor Ω tc10_put 1 0 0 [vR (some a0), vI x1] σ ιV (fc10_put N a0 x1 σ) := by
  refine Cor.of (by decide +kernel) (Nat.le_of_ble_eq_true rfl) (fun Γ hG => ?_)
  unfold fc10_put
  show Sim Ω Γ 0 0 ιV 4 0 [(0, vR (some a0)), (1, vI x1)] [] σ 0 0 _
  refine s_bipush (v := 24) hG dc10_put_0 (by decide) ?_
  refine s_istore_n hG dc10_put_2 (by decide) ?_
  exact s_lv (lc rfl (lc rfl (lc rfl ln))) (pc10_put_3 hG _ _ _ _ _)
def fc10_signsIn_22 (N : Nat) (K5 : Int32 → Int32 → Int32 → Me → Option (Int32 × Me)) (l0 : Int32) (l1 : Int32) (l2 : Int32) (σ : Me) : Option (Int32 × Me) :=
  K5 l0 l1 (l2 + (-8 : Int32)) σ
def fc10_signsIn_5 (N : Nat) : Nat → Int32 → Int32 → Int32 → Me → Option (Int32 × Me)
  | 0, _, _, _, _ => none
  | n + 1, l0, l1, l2, σ =>
    if l2 < 0 then
      some (l1, σ)
    else
      if ((((l0).toUInt32 >>> ((l2).toUInt32 &&& Int32.toUInt32 31)).toInt32) &&& (255 : Int32)) = 0 then
        fc10_signsIn_22 N (fc10_signsIn_5 N n) l0 l1 l2 σ
      else
        fc10_signsIn_22 N (fc10_signsIn_5 N n) l0 (l1 + (1 : Int32)) l2 σ
def fc10_signsIn (N : Nat) (x0 : Int32) (σ : Me) : Option (Int32 × Me) :=
  fc10_signsIn_5 N N x0 (0 : Int32) (24 : Int32) σ
set_option maxRecDepth 20000 in
set_option maxHeartbeats 2000000 in
theorem pc10_signsIn_22 {Ω : Om} {Γ : Ga} {N : Nat} (hG : Good Ω Γ tc10_signsIn 1 0 0) {K5 : Int32 → Int32 → Int32 → Me → Option (Int32 × Me)} (hK5 : ∀ (l0 : Int32) (l1 : Int32) (l2 : Int32) (σ : Me), Sim Ω Γ 0 0 ιI 3 5 [(0, vI l0), (1, vI l1), (2, vI l2)] [] σ 0 0 (K5 l0 l1 l2 σ)) (l0 : Int32) (l1 : Int32) (l2 : Int32) (σ : Me) : Sim Ω Γ 0 0 ιI 3 22 [(0, vI l0), (1, vI l1), (2, vI l2)] [] σ 0 0 (fc10_signsIn_22 N K5 l0 l1 l2 σ) := by
  unfold fc10_signsIn_22
  refine s_iinc (v := -8) hG dc10_signsIn_22 rfl (by decide) (by decide) ?_
  refine s_goto hG 5 dc10_signsIn_25 (by decide) ?_
  exact s_lv (lc rfl (lc rfl (lc rfl ln))) (hK5 _ _ _ _)
set_option maxRecDepth 20000 in
set_option maxHeartbeats 2000000 in
theorem pc10_signsIn_5 {Ω : Om} {Γ : Ga} {N : Nat} (hG : Good Ω Γ tc10_signsIn 1 0 0)  : ∀ (n : Nat) (l0 : Int32) (l1 : Int32) (l2 : Int32) (σ : Me), Sim Ω Γ 0 0 ιI 3 5 [(0, vI l0), (1, vI l1), (2, vI l2)] [] σ 0 0 (fc10_signsIn_5 N n l0 l1 l2 σ) := by
  intro n
  induction n with
  | zero => intros; exact s_none
  | succ n ih =>
    intro l0 l1 l2 σ
    unfold fc10_signsIn_5
    refine s_iload_n hG dc10_signsIn_5 rfl ?_
    refine s_if_lt hG 28 dc10_signsIn_6 (by decide) ?_ ?_
    · refine s_iload_n hG dc10_signsIn_28 rfl ?_
      exact s_iret hG dc10_signsIn_29 rfl (Nat.le_of_ble_eq_true rfl) (Nat.le_of_ble_eq_true rfl)
    · refine s_iload_n hG dc10_signsIn_9 rfl ?_
      refine s_iload_n hG dc10_signsIn_10 rfl ?_
      refine s_iushr hG dc10_signsIn_11 ?_
      refine s_sipush (v := 255) hG dc10_signsIn_12 (by decide) ?_
      refine s_iand hG dc10_signsIn_15 ?_
      refine s_if_eq hG 22 dc10_signsIn_16 (by decide) ?_ ?_
      · exact s_lv (lc rfl (lc rfl (lc rfl ln))) (pc10_signsIn_22 hG ih _ _ _ _)
      · refine s_iinc (v := 1) hG dc10_signsIn_19 rfl (by decide) (by decide) ?_
        exact s_lv (lc rfl (lc rfl (lc rfl ln))) (pc10_signsIn_22 hG ih _ _ _ _)
set_option maxRecDepth 20000 in
set_option maxHeartbeats 2000000 in
theorem corc10_signsIn {Ω : Om} (N : Nat) (x0 : Int32) (σ : Me) : Cor Ω tc10_signsIn 1 0 0 [vI x0] σ ιI (fc10_signsIn N x0 σ) := by
  refine Cor.of (by decide +kernel) (Nat.le_of_ble_eq_true rfl) (fun Γ hG => ?_)
  unfold fc10_signsIn
  show Sim Ω Γ 0 0 ιI 3 0 [(0, vI x0)] [] σ 0 0 _
  refine s_iconst (v := 0) hG dc10_signsIn_0 (by decide) ?_
  refine s_istore_n hG dc10_signsIn_1 (by decide) ?_
  refine s_bipush (v := 24) hG dc10_signsIn_2 (by decide) ?_
  refine s_istore_n hG dc10_signsIn_4 (by decide) ?_
  exact s_lv (lc rfl (lc rfl (lc rfl ln))) (pc10_signsIn_5 hG _ _ _ _ _)
def fc11_feed (N : Nat) (a0 : Nat) (x1 : Int32) (x2 : Int32) (x3 : Int32) (x4 : Int32) (x5 : Int32) (σ : Me) : Option (Int32 × Me) :=
  (fc10_signsIn N x1 σ).bind fun p1 =>
  (fc10_signsIn N x2 p1.2).bind fun p5 =>
  (fc10_signsIn N x3 p5.2).bind fun p10 =>
  (fc10_signsIn N x4 p10.2).bind fun p16 =>
  (fc10_signsIn N x5 p16.2).bind fun p22 =>
  (qR p22.2 11 0 (some a0)).bind fun v29 =>
  (qI p22.2 10 1 v29).bind fun v32 =>
  if (v32 + ((((p1.1 + p5.1) + p10.1) + p16.1) + p22.1)) ≤ (240 : Int32) then
    (qR p22.2 11 0 (some a0)).bind fun v47 =>
    (dr p22.2 v47 (.inl 10)).bind fun a =>
    (fc10_put N a x1 p22.2).bind fun p51 =>
    (qR p51.2 11 0 (some a0)).bind fun v55 =>
    (dr p51.2 v55 (.inl 10)).bind fun a =>
    (fc10_put N a x2 p51.2).bind fun p59 =>
    (qR p59.2 11 0 (some a0)).bind fun v63 =>
    (dr p59.2 v63 (.inl 10)).bind fun a =>
    (fc10_put N a x3 p59.2).bind fun p67 =>
    (qR p67.2 11 0 (some a0)).bind fun v71 =>
    (dr p67.2 v71 (.inl 10)).bind fun a =>
    (fc10_put N a x4 p67.2).bind fun p76 =>
    (qR p76.2 11 0 (some a0)).bind fun v80 =>
    (dr p76.2 v80 (.inl 10)).bind fun a =>
    (fc10_put N a x5 p76.2).bind fun p85 =>
    (qR p85.2 11 0 (some a0)).bind fun v89 =>
    (qI p85.2 10 1 v89).bind fun v92 =>
    some (v92, p85.2)
  else
    some ((-1 : Int32), p22.2)
set_option maxRecDepth 20000 in
set_option maxHeartbeats 2000000 in
theorem corc11_feed {Ω : Om} (N : Nat) (a0 : Nat) (x1 : Int32) (x2 : Int32) (x3 : Int32) (x4 : Int32) (x5 : Int32) (σ : Me) : Cor Ω tc11_feed 2 0 0 [vR (some a0), vI x1, vI x2, vI x3, vI x4, vI x5] σ ιI (fc11_feed N a0 x1 x2 x3 x4 x5 σ) := by
  refine Cor.of (by decide +kernel) (Nat.le_of_ble_eq_true rfl) (fun Γ hG => ?_)
  unfold fc11_feed
  show Sim Ω Γ 0 0 ιI 7 0 [(0, vR (some a0)), (1, vI x1), (2, vI x2), (3, vI x3), (4, vI x4), (5, vI x5)] [] σ 0 0 _
  refine s_iload_n hG dc11_feed_0 rfl ?_
  refine s_callSi hG kMc11_103 (corc10_signsIn N _ _) rfl (by first | decide | omega) dc11_feed_1 rfl rfl (Nat.le_of_ble_eq_true rfl) ⟨Nat.le_of_ble_eq_true rfl, Nat.le_of_ble_eq_true rfl⟩ (fun p1 => ?_)
  refine s_iload_n hG dc11_feed_4 rfl ?_
  refine s_callSi hG kMc11_103 (corc10_signsIn N _ _) rfl (by first | decide | omega) dc11_feed_5 rfl rfl (Nat.le_of_ble_eq_true rfl) ⟨Nat.le_of_ble_eq_true rfl, Nat.le_of_ble_eq_true rfl⟩ (fun p5 => ?_)
  refine s_iadd hG dc11_feed_8 ?_
  refine s_iload_n hG dc11_feed_9 rfl ?_
  refine s_callSi hG kMc11_103 (corc10_signsIn N _ _) rfl (by first | decide | omega) dc11_feed_10 rfl rfl (Nat.le_of_ble_eq_true rfl) ⟨Nat.le_of_ble_eq_true rfl, Nat.le_of_ble_eq_true rfl⟩ (fun p10 => ?_)
  refine s_iadd hG dc11_feed_13 ?_
  refine s_iload hG dc11_feed_14 rfl ?_
  refine s_callSi hG kMc11_103 (corc10_signsIn N _ _) rfl (by first | decide | omega) dc11_feed_16 rfl rfl (Nat.le_of_ble_eq_true rfl) ⟨Nat.le_of_ble_eq_true rfl, Nat.le_of_ble_eq_true rfl⟩ (fun p16 => ?_)
  refine s_iadd hG dc11_feed_19 ?_
  refine s_iload hG dc11_feed_20 rfl ?_
  refine s_callSi hG kMc11_103 (corc10_signsIn N _ _) rfl (by first | decide | omega) dc11_feed_22 rfl rfl (Nat.le_of_ble_eq_true rfl) ⟨Nat.le_of_ble_eq_true rfl, Nat.le_of_ble_eq_true rfl⟩ (fun p22 => ?_)
  refine s_iadd hG dc11_feed_25 ?_
  refine s_istore hG dc11_feed_26 (by decide) ?_
  refine s_aload_n hG dc11_feed_28 rfl ?_
  refine s_getR hG kFc11_10 rfl dc11_feed_29 (fun v29 => ?_)
  refine s_getI hG kFc11_107 rfl dc11_feed_32 (fun v32 => ?_)
  refine s_iload hG dc11_feed_35 rfl ?_
  refine s_iadd hG dc11_feed_37 ?_
  refine s_sipush (v := 240) hG dc11_feed_38 (by decide) ?_
  refine s_icmp_le hG 46 dc11_feed_41 (by decide) ?_ ?_
  · refine s_aload_n hG dc11_feed_46 rfl ?_
    refine s_getR hG kFc11_10 rfl dc11_feed_47 (fun v47 => ?_)
    refine s_iload_n hG dc11_feed_50 rfl ?_
    refine s_callVv hG kMc11_110 (fun a => corc10_put N a _ _) ⟨by decide, rfl⟩ rfl (by first | decide | omega) dc11_feed_51 rfl rfl (Nat.le_of_ble_eq_true rfl) ⟨Nat.le_of_ble_eq_true rfl, Nat.le_of_ble_eq_true rfl⟩ (fun p51 => ?_)
    refine s_aload_n hG dc11_feed_54 rfl ?_
    refine s_getR hG kFc11_10 rfl dc11_feed_55 (fun v55 => ?_)
    refine s_iload_n hG dc11_feed_58 rfl ?_
    refine s_callVv hG kMc11_110 (fun a => corc10_put N a _ _) ⟨by decide, rfl⟩ rfl (by first | decide | omega) dc11_feed_59 rfl rfl (Nat.le_of_ble_eq_true rfl) ⟨Nat.le_of_ble_eq_true rfl, Nat.le_of_ble_eq_true rfl⟩ (fun p59 => ?_)
    refine s_aload_n hG dc11_feed_62 rfl ?_
    refine s_getR hG kFc11_10 rfl dc11_feed_63 (fun v63 => ?_)
    refine s_iload_n hG dc11_feed_66 rfl ?_
    refine s_callVv hG kMc11_110 (fun a => corc10_put N a _ _) ⟨by decide, rfl⟩ rfl (by first | decide | omega) dc11_feed_67 rfl rfl (Nat.le_of_ble_eq_true rfl) ⟨Nat.le_of_ble_eq_true rfl, Nat.le_of_ble_eq_true rfl⟩ (fun p67 => ?_)
    refine s_aload_n hG dc11_feed_70 rfl ?_
    refine s_getR hG kFc11_10 rfl dc11_feed_71 (fun v71 => ?_)
    refine s_iload hG dc11_feed_74 rfl ?_
    refine s_callVv hG kMc11_110 (fun a => corc10_put N a _ _) ⟨by decide, rfl⟩ rfl (by first | decide | omega) dc11_feed_76 rfl rfl (Nat.le_of_ble_eq_true rfl) ⟨Nat.le_of_ble_eq_true rfl, Nat.le_of_ble_eq_true rfl⟩ (fun p76 => ?_)
    refine s_aload_n hG dc11_feed_79 rfl ?_
    refine s_getR hG kFc11_10 rfl dc11_feed_80 (fun v80 => ?_)
    refine s_iload hG dc11_feed_83 rfl ?_
    refine s_callVv hG kMc11_110 (fun a => corc10_put N a _ _) ⟨by decide, rfl⟩ rfl (by first | decide | omega) dc11_feed_85 rfl rfl (Nat.le_of_ble_eq_true rfl) ⟨Nat.le_of_ble_eq_true rfl, Nat.le_of_ble_eq_true rfl⟩ (fun p85 => ?_)
    refine s_aload_n hG dc11_feed_88 rfl ?_
    refine s_getR hG kFc11_10 rfl dc11_feed_89 (fun v89 => ?_)
    refine s_getI hG kFc11_107 rfl dc11_feed_92 (fun v92 => ?_)
    exact s_iret hG dc11_feed_95 rfl (Nat.le_of_ble_eq_true rfl) (Nat.le_of_ble_eq_true rfl)
  · refine s_iconst (v := -1) hG dc11_feed_44 (by decide) ?_
    exact s_iret hG dc11_feed_45 rfl (Nat.le_of_ble_eq_true rfl) (Nat.le_of_ble_eq_true rfl)
def fc11_end (N : Nat) (a0 : Nat) (x1 : Int32) (σ : Me) : Option (Int32 × Me) :=
  if x1 < 0 then
    retZ (0 : Int32) σ
  else
    (qR σ 11 0 (some a0)).bind fun v6 =>
    (qI σ 10 1 v6).bind fun v9 =>
    if x1 ≤ v9 then
      (qR σ 11 0 (some a0)).bind fun v18 =>
      (pI σ 10 1 v18 x1).bind fun σ22 =>
      retZ (1 : Int32) σ22
    else
      retZ (0 : Int32) σ
set_option maxRecDepth 20000 in
set_option maxHeartbeats 2000000 in
theorem corc11_end {Ω : Om} (N : Nat) (a0 : Nat) (x1 : Int32) (σ : Me) : Cor Ω tc11_end 1 0 0 [vR (some a0), vI x1] σ ιI (fc11_end N a0 x1 σ) := by
  refine Cor.of (by decide +kernel) (Nat.le_of_ble_eq_true rfl) (fun Γ hG => ?_)
  unfold fc11_end
  show Sim Ω Γ 0 0 ιI 2 0 [(0, vR (some a0)), (1, vI x1)] [] σ 0 0 _
  refine s_iload_n hG dc11_end_0 rfl ?_
  refine s_if_lt hG 15 dc11_end_1 (by decide) ?_ ?_
  · refine s_iconst (v := 0) hG dc11_end_15 (by decide) ?_
    exact s_zret hG dc11_end_16 rfl (Nat.le_of_ble_eq_true rfl) (Nat.le_of_ble_eq_true rfl)
  · refine s_iload_n hG dc11_end_4 rfl ?_
    refine s_aload_n hG dc11_end_5 rfl ?_
    refine s_getR hG kFc11_10 rfl dc11_end_6 (fun v6 => ?_)
    refine s_getI hG kFc11_107 rfl dc11_end_9 (fun v9 => ?_)
    refine s_icmp_le hG 17 dc11_end_12 (by decide) ?_ ?_
    · refine s_aload_n hG dc11_end_17 rfl ?_
      refine s_getR hG kFc11_10 rfl dc11_end_18 (fun v18 => ?_)
      refine s_iload_n hG dc11_end_21 rfl ?_
      refine s_putI (fin := false) hG kFc11_107 rfl (fun h => by cases h) rfl (fun _ => rfl) (fun _ => rfl) dc11_end_22 (fun σ22 => ?_)
      refine s_iconst (v := 1) hG dc11_end_25 (by decide) ?_
      exact s_zret hG dc11_end_26 rfl (Nat.le_of_ble_eq_true rfl) (Nat.le_of_ble_eq_true rfl)
    · refine s_iconst (v := 0) hG dc11_end_15 (by decide) ?_
      exact s_zret hG dc11_end_16 rfl (Nat.le_of_ble_eq_true rfl) (Nat.le_of_ble_eq_true rfl)
def fc10_next_38 (N : Nat) (l0 : Option Nat) (σ : Me) : Option (Int32 × Me) :=
  (qI σ 10 2 l0).bind fun v39 =>
  (qI σ 10 1 l0).bind fun v43 =>
  if v43 ≤ v39 then
    some ((0 : Int32), σ)
  else
    (qR σ 10 0 l0).bind fun v50 =>
    (qI σ 10 2 l0).bind fun v54 =>
    (ldB σ v50 v54).bind fun v57 =>
    some ((v57 &&& (255 : Int32)), σ)
def fc10_next_0 (N : Nat) : Nat → Option Nat → Me → Option (Int32 × Me)
  | 0, _, _ => none
  | n + 1, l0, σ =>
    (qI σ 10 2 l0).bind fun v1 =>
    (qI σ 10 1 l0).bind fun v5 =>
    if v5 ≤ v1 then
      fc10_next_38 N l0 σ
    else
      (qR σ 10 0 l0).bind fun v12 =>
      (qI σ 10 2 l0).bind fun v16 =>
      (ldB σ v12 v16).bind fun v19 =>
      if v19 = (32 : Int32) then
        (qI σ 10 2 l0).bind fun v27 =>
        (pI σ 10 2 l0 (v27 + (1 : Int32))).bind fun σ32 =>
        (fc10_next_0 N n) l0 σ32
      else
        fc10_next_38 N l0 σ
def fc10_next (N : Nat) (a0 : Nat) (σ : Me) : Option (Int32 × Me) :=
  fc10_next_0 N N (some a0) σ
set_option maxRecDepth 20000 in
set_option maxHeartbeats 2000000 in
theorem pc10_next_38 {Ω : Om} {Γ : Ga} {N : Nat} (hG : Good Ω Γ tc10_next 1 0 0) (l0 : Option Nat) (σ : Me) : Sim Ω Γ 0 0 ιI 1 38 [(0, vR l0)] [] σ 0 0 (fc10_next_38 N l0 σ) := by
  unfold fc10_next_38
  refine s_aload_n hG dc10_next_38 rfl ?_
  refine s_getI hG kFc10_19 rfl dc10_next_39 (fun v39 => ?_)
  refine s_aload_n hG dc10_next_42 rfl ?_
  refine s_getI hG kFc10_15 rfl dc10_next_43 (fun v43 => ?_)
  refine s_icmp_ge hG 65 dc10_next_46 (by decide) ?_ ?_
  · refine s_iconst (v := 0) hG dc10_next_65 (by decide) ?_
    exact s_iret hG dc10_next_66 rfl (Nat.le_of_ble_eq_true rfl) (Nat.le_of_ble_eq_true rfl)
  · refine s_aload_n hG dc10_next_49 rfl ?_
    refine s_getR hG kFc10_9 rfl dc10_next_50 (fun v50 => ?_)
    refine s_aload_n hG dc10_next_53 rfl ?_
    refine s_getI hG kFc10_19 rfl dc10_next_54 (fun v54 => ?_)
    refine s_bald hG dc10_next_57 (fun v57 => ?_)
    refine s_sipush (v := 255) hG dc10_next_58 (by decide) ?_
    refine s_iand hG dc10_next_61 ?_
    refine s_goto hG 66 dc10_next_62 (by decide) ?_
    exact s_iret hG dc10_next_66 rfl (Nat.le_of_ble_eq_true rfl) (Nat.le_of_ble_eq_true rfl)
set_option maxRecDepth 20000 in
set_option maxHeartbeats 2000000 in
theorem pc10_next_0 {Ω : Om} {Γ : Ga} {N : Nat} (hG : Good Ω Γ tc10_next 1 0 0)  : ∀ (n : Nat) (l0 : Option Nat) (σ : Me), Sim Ω Γ 0 0 ιI 1 0 [(0, vR l0)] [] σ 0 0 (fc10_next_0 N n l0 σ) := by
  intro n
  induction n with
  | zero => intros; exact s_none
  | succ n ih =>
    intro l0 σ
    unfold fc10_next_0
    refine s_aload_n hG dc10_next_0 rfl ?_
    refine s_getI hG kFc10_19 rfl dc10_next_1 (fun v1 => ?_)
    refine s_aload_n hG dc10_next_4 rfl ?_
    refine s_getI hG kFc10_15 rfl dc10_next_5 (fun v5 => ?_)
    refine s_icmp_ge hG 38 dc10_next_8 (by decide) ?_ ?_
    · exact s_lv (lc rfl ln) (pc10_next_38 hG _ _)
    · refine s_aload_n hG dc10_next_11 rfl ?_
      refine s_getR hG kFc10_9 rfl dc10_next_12 (fun v12 => ?_)
      refine s_aload_n hG dc10_next_15 rfl ?_
      refine s_getI hG kFc10_19 rfl dc10_next_16 (fun v16 => ?_)
      refine s_bald hG dc10_next_19 (fun v19 => ?_)
      refine s_bipush (v := 32) hG dc10_next_20 (by decide) ?_
      refine s_icmp_ne hG 38 dc10_next_22 (by decide) ?_ ?_
      · exact s_lv (lc rfl ln) (pc10_next_38 hG _ _)
      · refine s_aload_n hG dc10_next_25 rfl ?_
        refine s_dup hG dc10_next_26 rfl ?_
        refine s_getI hG kFc10_19 rfl dc10_next_27 (fun v27 => ?_)
        refine s_iconst (v := 1) hG dc10_next_30 (by decide) ?_
        refine s_iadd hG dc10_next_31 ?_
        refine s_putI (fin := false) hG kFc10_19 rfl (fun h => by cases h) rfl (fun _ => rfl) (fun _ => rfl) dc10_next_32 (fun σ32 => ?_)
        refine s_goto hG 0 dc10_next_35 (by decide) ?_
        exact s_lv (lc rfl ln) (ih _ _)
set_option maxRecDepth 20000 in
set_option maxHeartbeats 2000000 in
theorem corc10_next {Ω : Om} (N : Nat) (a0 : Nat) (σ : Me) : Cor Ω tc10_next 1 0 0 [vR (some a0)] σ ιI (fc10_next N a0 σ) := by
  refine Cor.of (by decide +kernel) (Nat.le_of_ble_eq_true rfl) (fun Γ hG => ?_)
  unfold fc10_next
  show Sim Ω Γ 0 0 ιI 1 0 [(0, vR (some a0))] [] σ 0 0 _
  exact s_lv (lc rfl ln) (pc10_next_0 hG _ _ _)
def fc10_take (N : Nat) (a0 : Nat) (x1 : Int32) (σ : Me) : Option (Int32 × Me) :=
  (dr σ (some a0) (.inl 10)).bind fun a =>
  (fc10_next N a σ).bind fun p1 =>
  if p1.1 = x1 then
    (qI p1.2 10 2 (some a0)).bind fun v12 =>
    (pI p1.2 10 2 (some a0) (v12 + (1 : Int32))).bind fun σ17 =>
    retZ (1 : Int32) σ17
  else
    retZ (0 : Int32) p1.2
set_option maxRecDepth 20000 in
set_option maxHeartbeats 2000000 in
theorem corc10_take {Ω : Om} (N : Nat) (a0 : Nat) (x1 : Int32) (σ : Me) : Cor Ω tc10_take 2 0 0 [vR (some a0), vI x1] σ ιI (fc10_take N a0 x1 σ) := by
  refine Cor.of (by decide +kernel) (Nat.le_of_ble_eq_true rfl) (fun Γ hG => ?_)
  unfold fc10_take
  show Sim Ω Γ 0 0 ιI 2 0 [(0, vR (some a0)), (1, vI x1)] [] σ 0 0 _
  refine s_aload_n hG dc10_take_0 rfl ?_
  refine s_callVi hG kMc10_22 (fun a => corc10_next N a _) ⟨by decide, rfl⟩ rfl (by first | decide | omega) dc10_take_1 rfl rfl (Nat.le_of_ble_eq_true rfl) ⟨Nat.le_of_ble_eq_true rfl, Nat.le_of_ble_eq_true rfl⟩ (fun p1 => ?_)
  refine s_iload_n hG dc10_take_4 rfl ?_
  refine s_icmp_eq hG 10 dc10_take_5 (by decide) ?_ ?_
  · refine s_aload_n hG dc10_take_10 rfl ?_
    refine s_dup hG dc10_take_11 rfl ?_
    refine s_getI hG kFc10_19 rfl dc10_take_12 (fun v12 => ?_)
    refine s_iconst (v := 1) hG dc10_take_15 (by decide) ?_
    refine s_iadd hG dc10_take_16 ?_
    refine s_putI (fin := false) hG kFc10_19 rfl (fun h => by cases h) rfl (fun _ => rfl) (fun _ => rfl) dc10_take_17 (fun σ17 => ?_)
    refine s_iconst (v := 1) hG dc10_take_20 (by decide) ?_
    exact s_zret hG dc10_take_21 rfl (Nat.le_of_ble_eq_true rfl) (Nat.le_of_ble_eq_true rfl)
  · refine s_iconst (v := 0) hG dc10_take_8 (by decide) ?_
    exact s_zret hG dc10_take_9 rfl (Nat.le_of_ble_eq_true rfl) (Nat.le_of_ble_eq_true rfl)
def fc10_signAt (N : Nat) (a0 : Nat) (x1 : Int32) (σ : Me) : Option (Int32 × Me) :=
  if x1 < 0 then
    some ((0 : Int32), σ)
  else
    (qI σ 10 1 (some a0)).bind fun v6 =>
    if v6 ≤ x1 then
      some ((0 : Int32), σ)
    else
      (qR σ 10 0 (some a0)).bind fun v13 =>
      (ldB σ v13 x1).bind fun v17 =>
      some ((v17 &&& (255 : Int32)), σ)
set_option maxRecDepth 20000 in
set_option maxHeartbeats 2000000 in
theorem corc10_signAt {Ω : Om} (N : Nat) (a0 : Nat) (x1 : Int32) (σ : Me) : Cor Ω tc10_signAt 1 0 0 [vR (some a0), vI x1] σ ιI (fc10_signAt N a0 x1 σ) := by
  refine Cor.of (by decide +kernel) (Nat.le_of_ble_eq_true rfl) (fun Γ hG => ?_)
  unfold fc10_signAt
  show Sim Ω Γ 0 0 ιI 2 0 [(0, vR (some a0)), (1, vI x1)] [] σ 0 0 _
  refine s_iload_n hG dc10_signAt_0 rfl ?_
  refine s_if_lt hG 25 dc10_signAt_1 (by decide) ?_ ?_
  · refine s_iconst (v := 0) hG dc10_signAt_25 (by decide) ?_
    exact s_iret hG dc10_signAt_26 rfl (Nat.le_of_ble_eq_true rfl) (Nat.le_of_ble_eq_true rfl)
  · refine s_iload_n hG dc10_signAt_4 rfl ?_
    refine s_aload_n hG dc10_signAt_5 rfl ?_
    refine s_getI hG kFc10_15 rfl dc10_signAt_6 (fun v6 => ?_)
    refine s_icmp_ge hG 25 dc10_signAt_9 (by decide) ?_ ?_
    · refine s_iconst (v := 0) hG dc10_signAt_25 (by decide) ?_
      exact s_iret hG dc10_signAt_26 rfl (Nat.le_of_ble_eq_true rfl) (Nat.le_of_ble_eq_true rfl)
    · refine s_aload_n hG dc10_signAt_12 rfl ?_
      refine s_getR hG kFc10_9 rfl dc10_signAt_13 (fun v13 => ?_)
      refine s_iload_n hG dc10_signAt_16 rfl ?_
      refine s_bald hG dc10_signAt_17 (fun v17 => ?_)
      refine s_sipush (v := 255) hG dc10_signAt_18 (by decide) ?_
      refine s_iand hG dc10_signAt_21 ?_
      refine s_goto hG 26 dc10_signAt_22 (by decide) ?_
      exact s_iret hG dc10_signAt_26 rfl (Nat.le_of_ble_eq_true rfl) (Nat.le_of_ble_eq_true rfl)
def fc4_isComparing_18 (N : Nat)  (σ : Me) : Option (Int32 × Me) :=
  retZ (1 : Int32) σ
def fc4_isComparing (N : Nat) (x0 : Int32) (σ : Me) : Option (Int32 × Me) :=
  if x0 = (61 : Int32) then
    fc4_isComparing_18 N  σ
  else
    if x0 = (60 : Int32) then
      fc4_isComparing_18 N  σ
    else
      if x0 = (62 : Int32) then
        fc4_isComparing_18 N  σ
      else
        retZ (0 : Int32) σ
set_option maxRecDepth 20000 in
set_option maxHeartbeats 2000000 in
theorem pc4_isComparing_18 {Ω : Om} {Γ : Ga} {N : Nat} (hG : Good Ω Γ tc4_isComparing 1 0 0)  (σ : Me) : Sim Ω Γ 0 0 ιI 1 18 [] [] σ 0 0 (fc4_isComparing_18 N  σ) := by
  unfold fc4_isComparing_18
  refine s_iconst (v := 1) hG dc4_isComparing_18 (by decide) ?_
  refine s_goto hG 23 dc4_isComparing_19 (by decide) ?_
  exact s_zret hG dc4_isComparing_23 rfl (Nat.le_of_ble_eq_true rfl) (Nat.le_of_ble_eq_true rfl)
set_option maxRecDepth 20000 in
set_option maxHeartbeats 2000000 in
theorem corc4_isComparing {Ω : Om} (N : Nat) (x0 : Int32) (σ : Me) : Cor Ω tc4_isComparing 1 0 0 [vI x0] σ ιI (fc4_isComparing N x0 σ) := by
  refine Cor.of (by decide +kernel) (Nat.le_of_ble_eq_true rfl) (fun Γ hG => ?_)
  unfold fc4_isComparing
  show Sim Ω Γ 0 0 ιI 1 0 [(0, vI x0)] [] σ 0 0 _
  refine s_iload_n hG dc4_isComparing_0 rfl ?_
  refine s_bipush (v := 61) hG dc4_isComparing_1 (by decide) ?_
  refine s_icmp_eq hG 18 dc4_isComparing_3 (by decide) ?_ ?_
  · exact s_lv ln (pc4_isComparing_18 hG _)
  · refine s_iload_n hG dc4_isComparing_6 rfl ?_
    refine s_bipush (v := 60) hG dc4_isComparing_7 (by decide) ?_
    refine s_icmp_eq hG 18 dc4_isComparing_9 (by decide) ?_ ?_
    · exact s_lv ln (pc4_isComparing_18 hG _)
    · refine s_iload_n hG dc4_isComparing_12 rfl ?_
      refine s_bipush (v := 62) hG dc4_isComparing_13 (by decide) ?_
      refine s_icmp_ne hG 22 dc4_isComparing_15 (by decide) ?_ ?_
      · refine s_iconst (v := 0) hG dc4_isComparing_22 (by decide) ?_
        exact s_zret hG dc4_isComparing_23 rfl (Nat.le_of_ble_eq_true rfl) (Nat.le_of_ble_eq_true rfl)
      · exact s_lv ln (pc4_isComparing_18 hG _)
def fc4_isConditional_8 (N : Nat) : Nat → Option Nat → Int32 → Me → Option (Int32 × Me)
  | 0, _, _, _ => none
  | n + 1, l0, l1, σ =>
    (qR σ 4 0 l0).bind fun v10 =>
    (qI σ 10 1 v10).bind fun v13 =>
    if v13 ≤ l1 then
      retZ (0 : Int32) σ
    else
      (qR σ 4 0 l0).bind fun v20 =>
      (dr σ v20 (.inl 10)).bind fun a =>
      (fc10_signAt N a l1 σ).bind fun p24 =>
      if p24.1 = (59 : Int32) then
        retZ (0 : Int32) p24.2
      else
        if p24.1 = (33 : Int32) then
          retZ (1 : Int32) p24.2
        else
          if p24.1 = (40 : Int32) then
            retZ (1 : Int32) p24.2
          else
            (fc4_isComparing N p24.1 p24.2).bind fun p49 =>
            if p49.1 = 0 then
              (fc4_isConditional_8 N n) l0 (l1 + (1 : Int32)) p49.2
            else
              retZ (1 : Int32) p49.2
def fc4_isConditional (N : Nat) (a0 : Nat) (σ : Me) : Option (Int32 × Me) :=
  (qR σ 4 0 (some a0)).bind fun v1 =>
  (qI σ 10 2 v1).bind fun v4 =>
  fc4_isConditional_8 N N (some a0) v4 σ
set_option maxRecDepth 20000 in
set_option maxHeartbeats 2000000 in
theorem pc4_isConditional_8 {Ω : Om} {Γ : Ga} {N : Nat} (hG : Good Ω Γ tc4_isConditional 2 0 0)  : ∀ (n : Nat) (l0 : Option Nat) (l1 : Int32) (σ : Me), Sim Ω Γ 0 0 ιI 3 8 [(0, vR l0), (1, vI l1)] [] σ 0 0 (fc4_isConditional_8 N n l0 l1 σ) := by
  intro n
  induction n with
  | zero => intros; exact s_none
  | succ n ih =>
    intro l0 l1 σ
    unfold fc4_isConditional_8
    refine s_iload_n hG dc4_isConditional_8 rfl ?_
    refine s_aload_n hG dc4_isConditional_9 rfl ?_
    refine s_getR hG kFc4_15 rfl dc4_isConditional_10 (fun v10 => ?_)
    refine s_getI hG kFc4_63 rfl dc4_isConditional_13 (fun v13 => ?_)
    refine s_icmp_ge hG 63 dc4_isConditional_16 (by decide) ?_ ?_
    · refine s_iconst (v := 0) hG dc4_isConditional_63 (by decide) ?_
      exact s_zret hG dc4_isConditional_64 rfl (Nat.le_of_ble_eq_true rfl) (Nat.le_of_ble_eq_true rfl)
    · refine s_aload_n hG dc4_isConditional_19 rfl ?_
      refine s_getR hG kFc4_15 rfl dc4_isConditional_20 (fun v20 => ?_)
      refine s_iload_n hG dc4_isConditional_23 rfl ?_
      refine s_callVi hG kMc4_66 (fun a => corc10_signAt N a _ _) ⟨by decide, rfl⟩ rfl (by first | decide | omega) dc4_isConditional_24 rfl rfl (Nat.le_of_ble_eq_true rfl) ⟨Nat.le_of_ble_eq_true rfl, Nat.le_of_ble_eq_true rfl⟩ (fun p24 => ?_)
      refine s_istore_n hG dc4_isConditional_27 (by decide) ?_
      refine s_iload_n hG dc4_isConditional_28 rfl ?_
      refine s_bipush (v := 59) hG dc4_isConditional_29 (by decide) ?_
      refine s_icmp_ne hG 36 dc4_isConditional_31 (by decide) ?_ ?_
      · refine s_iload_n hG dc4_isConditional_36 rfl ?_
        refine s_bipush (v := 33) hG dc4_isConditional_37 (by decide) ?_
        refine s_icmp_eq hG 55 dc4_isConditional_39 (by decide) ?_ ?_
        · refine s_iconst (v := 1) hG dc4_isConditional_55 (by decide) ?_
          exact s_zret hG dc4_isConditional_56 rfl (Nat.le_of_ble_eq_true rfl) (Nat.le_of_ble_eq_true rfl)
        · refine s_iload_n hG dc4_isConditional_42 rfl ?_
          refine s_bipush (v := 40) hG dc4_isConditional_43 (by decide) ?_
          refine s_icmp_eq hG 55 dc4_isConditional_45 (by decide) ?_ ?_
          · refine s_iconst (v := 1) hG dc4_isConditional_55 (by decide) ?_
            exact s_zret hG dc4_isConditional_56 rfl (Nat.le_of_ble_eq_true rfl) (Nat.le_of_ble_eq_true rfl)
          · refine s_iload_n hG dc4_isConditional_48 rfl ?_
            refine s_callSi hG kMc4_70 (corc4_isComparing N _ _) rfl (by first | decide | omega) dc4_isConditional_49 rfl rfl (Nat.le_of_ble_eq_true rfl) ⟨Nat.le_of_ble_eq_true rfl, Nat.le_of_ble_eq_true rfl⟩ (fun p49 => ?_)
            refine s_if_eq hG 57 dc4_isConditional_52 (by decide) ?_ ?_
            · refine s_iinc (v := 1) hG dc4_isConditional_57 rfl (by decide) (by decide) ?_
              refine s_goto hG 8 dc4_isConditional_60 (by decide) ?_
              exact s_lv (lc rfl (lc rfl ln)) (ih _ _ _)
            · refine s_iconst (v := 1) hG dc4_isConditional_55 (by decide) ?_
              exact s_zret hG dc4_isConditional_56 rfl (Nat.le_of_ble_eq_true rfl) (Nat.le_of_ble_eq_true rfl)
      · refine s_iconst (v := 0) hG dc4_isConditional_34 (by decide) ?_
        exact s_zret hG dc4_isConditional_35 rfl (Nat.le_of_ble_eq_true rfl) (Nat.le_of_ble_eq_true rfl)
set_option maxRecDepth 20000 in
set_option maxHeartbeats 2000000 in
theorem corc4_isConditional {Ω : Om} (N : Nat) (a0 : Nat) (σ : Me) : Cor Ω tc4_isConditional 2 0 0 [vR (some a0)] σ ιI (fc4_isConditional N a0 σ) := by
  refine Cor.of (by decide +kernel) (Nat.le_of_ble_eq_true rfl) (fun Γ hG => ?_)
  unfold fc4_isConditional
  show Sim Ω Γ 0 0 ιI 3 0 [(0, vR (some a0))] [] σ 0 0 _
  refine s_aload_n hG dc4_isConditional_0 rfl ?_
  refine s_getR hG kFc4_15 rfl dc4_isConditional_1 (fun v1 => ?_)
  refine s_getI hG kFc4_34 rfl dc4_isConditional_4 (fun v4 => ?_)
  refine s_istore_n hG dc4_isConditional_7 (by decide) ?_
  exact s_lv (lc rfl (lc rfl ln)) (pc4_isConditional_8 hG _ _ _ _)
