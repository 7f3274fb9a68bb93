def fc11_planAt_12 (N : Nat)  (σ : Me) : Option (Option Nat × Me) :=
  some (none, σ)
def fc11_planAt (N : Nat) (a0 : Nat) (x1 : Int32) (σ : Me) : Option (Option Nat × Me) :=
  if x1 < 0 then
    fc11_planAt_12 N  σ
  else
    (qI σ 11 7 (some a0)).bind fun v6 =>
    if x1 < v6 then
      (qR σ 11 5 (some a0)).bind fun v17 =>
      (ldR σ "RainOwed$Plan" v17 x1).bind fun v21 =>
      some (v21, σ)
    else
      fc11_planAt_12 N  σ
set_option maxRecDepth 20000 in
set_option maxHeartbeats 2000000 in
theorem pc11_planAt_12 {Ω : Om} {Γ : Ga} {N : Nat} (hG : Good Ω Γ tc11_planAt 1 0 0)  (σ : Me) : Sim Ω Γ 0 0 ιR 2 12 [] [] σ 0 0 (fc11_planAt_12 N  σ) := by
  unfold fc11_planAt_12
  refine s_null hG dc11_planAt_12 ?_
  refine s_goto hG 22 dc11_planAt_13 (by decide) ?_
  exact s_aret hG dc11_planAt_22 rfl (by first | exact Or.inl ⟨_, rfl⟩ | exact Or.inr ⟨_, rfl⟩) (Nat.le_of_ble_eq_true rfl) (Nat.le_of_ble_eq_true rfl)
set_option maxRecDepth 20000 in
set_option maxHeartbeats 2000000 in
theorem corc11_planAt {Ω : Om} (N : Nat) (a0 : Nat) (x1 : Int32) (σ : Me) : Cor Ω tc11_planAt 1 0 0 [vR (some a0), vI x1] σ ιR (fc11_planAt N a0 x1 σ) := by
  refine Cor.of (by decide +kernel) (Nat.le_of_ble_eq_true rfl) (fun Γ hG => ?_)
  unfold fc11_planAt
  show Sim Ω Γ 0 0 ιR 2 0 [(0, vR (some a0)), (1, vI x1)] [] σ 0 0 _
  refine s_iload_n hG dc11_planAt_0 rfl ?_
  refine s_if_lt hG 12 dc11_planAt_1 (by decide) ?_ ?_
  · exact s_lv ln (pc11_planAt_12 hG _)
  · refine s_iload_n hG dc11_planAt_4 rfl ?_
    refine s_aload_n hG dc11_planAt_5 rfl ?_
    refine s_getI hG kFc11_164 rfl dc11_planAt_6 (fun v6 => ?_)
    refine s_icmp_lt hG 16 dc11_planAt_9 (by decide) ?_ ?_
    · refine s_aload_n hG dc11_planAt_16 rfl ?_
      refine s_getR hG kFc11_47 rfl dc11_planAt_17 (fun v17 => ?_)
      refine s_iload_n hG dc11_planAt_20 rfl ?_
      refine s_aald hG 5 rfl dc11_planAt_21 (fun v21 => ?_)
      exact s_aret hG dc11_planAt_22 rfl (by first | exact Or.inl ⟨_, rfl⟩ | exact Or.inr ⟨_, rfl⟩) (Nat.le_of_ble_eq_true rfl) (Nat.le_of_ble_eq_true rfl)
    · exact s_lv ln (pc11_planAt_12 hG _)
def fc11_step (N : Nat) (a0 : Nat) (x1 : Int32) (x2 : Int32) (x3 : Int32) (σ : Me) : Option (Int32 × Me) :=
  (dr σ (some a0) (.inl 11)).bind fun a =>
  (fc11_planAt N a x1 σ).bind fun p2 =>
  if p2.1 = none then
    some ((-1000000 : Int32), p2.2)
  else
    if x2 < 0 then
      some ((-1000000 : Int32), p2.2)
    else
      (qI p2.2 7 3 p2.1).bind fun v19 =>
      if v19 ≤ x2 then
        some ((-1000000 : Int32), p2.2)
      else
        if x3 < 0 then
          some ((-1000000 : Int32), p2.2)
        else
          if x3 ≤ (2 : Int32) then
            if x3 = 0 then
              (qR p2.2 7 0 p2.1).bind fun v43 =>
              (ldI p2.2 v43 x2).bind fun v47 =>
              some (v47, p2.2)
            else
              if x3 = (1 : Int32) then
                (qR p2.2 7 1 p2.1).bind fun v58 =>
                (ldI p2.2 v58 x2).bind fun v62 =>
                some (v62, p2.2)
              else
                (qR p2.2 7 2 p2.1).bind fun v68 =>
                (ldI p2.2 v68 x2).bind fun v72 =>
                some (v72, p2.2)
          else
            some ((-1000000 : Int32), p2.2)
set_option maxRecDepth 20000 in
set_option maxHeartbeats 2000000 in
theorem corc11_step {Ω : Om} (N : Nat) (a0 : Nat) (x1 : Int32) (x2 : Int32) (x3 : Int32) (σ : Me) : Cor Ω tc11_step 2 0 0 [vR (some a0), vI x1, vI x2, vI x3] σ ιI (fc11_step N a0 x1 x2 x3 σ) := by
  refine Cor.of (by decide +kernel) (Nat.le_of_ble_eq_true rfl) (fun Γ hG => ?_)
  unfold fc11_step
  show Sim Ω Γ 0 0 ιI 5 0 [(0, vR (some a0)), (1, vI x1), (2, vI x2), (3, vI x3)] [] σ 0 0 _
  refine s_aload_n hG dc11_step_0 rfl ?_
  refine s_iload_n hG dc11_step_1 rfl ?_
  refine s_callVr hG kMc11_219 (fun a => corc11_planAt N a _ _) ⟨by decide, rfl⟩ rfl (by first | decide | omega) dc11_step_2 rfl rfl (Nat.le_of_ble_eq_true rfl) ⟨Nat.le_of_ble_eq_true rfl, Nat.le_of_ble_eq_true rfl⟩ (fun p2 => ?_)
  refine s_astore hG dc11_step_5 (by decide) ?_
  refine s_aload hG dc11_step_7 rfl ?_
  refine s_ifnull hG 34 dc11_step_9 (by decide) ?_ ?_
  · refine s_ldc hG dc11_step_34 kIc11_214 ?_
    exact s_iret hG dc11_step_36 rfl (Nat.le_of_ble_eq_true rfl) (Nat.le_of_ble_eq_true rfl)
  · refine s_iload_n hG dc11_step_12 rfl ?_
    refine s_if_lt hG 34 dc11_step_13 (by decide) ?_ ?_
    · refine s_ldc hG dc11_step_34 kIc11_214 ?_
      exact s_iret hG dc11_step_36 rfl (Nat.le_of_ble_eq_true rfl) (Nat.le_of_ble_eq_true rfl)
    · refine s_iload_n hG dc11_step_16 rfl ?_
      refine s_aload hG dc11_step_17 rfl ?_
      refine s_getI hG kFc11_223 rfl dc11_step_19 (fun v19 => ?_)
      refine s_icmp_ge hG 34 dc11_step_22 (by decide) ?_ ?_
      · refine s_ldc hG dc11_step_34 kIc11_214 ?_
        exact s_iret hG dc11_step_36 rfl (Nat.le_of_ble_eq_true rfl) (Nat.le_of_ble_eq_true rfl)
      · refine s_iload_n hG dc11_step_25 rfl ?_
        refine s_if_lt hG 34 dc11_step_26 (by decide) ?_ ?_
        · refine s_ldc hG dc11_step_34 kIc11_214 ?_
          exact s_iret hG dc11_step_36 rfl (Nat.le_of_ble_eq_true rfl) (Nat.le_of_ble_eq_true rfl)
        · refine s_iload_n hG dc11_step_29 rfl ?_
          refine s_iconst (v := 2) hG dc11_step_30 (by decide) ?_
          refine s_icmp_le hG 37 dc11_step_31 (by decide) ?_ ?_
          · refine s_iload_n hG dc11_step_37 rfl ?_
            refine s_if_ne hG 51 dc11_step_38 (by decide) ?_ ?_
            · refine s_iload_n hG dc11_step_51 rfl ?_
              refine s_iconst (v := 1) hG dc11_step_52 (by decide) ?_
              refine s_icmp_ne hG 66 dc11_step_53 (by decide) ?_ ?_
              · refine s_aload hG dc11_step_66 rfl ?_
                refine s_getR hG kFc11_232 rfl dc11_step_68 (fun v68 => ?_)
                refine s_iload_n hG dc11_step_71 rfl ?_
                refine s_iald hG dc11_step_72 (fun v72 => ?_)
                exact s_iret hG dc11_step_73 rfl (Nat.le_of_ble_eq_true rfl) (Nat.le_of_ble_eq_true rfl)
              · refine s_aload hG dc11_step_56 rfl ?_
                refine s_getR hG kFc11_229 rfl dc11_step_58 (fun v58 => ?_)
                refine s_iload_n hG dc11_step_61 rfl ?_
                refine s_iald hG dc11_step_62 (fun v62 => ?_)
                refine s_goto hG 73 dc11_step_63 (by decide) ?_
                exact s_iret hG dc11_step_73 rfl (Nat.le_of_ble_eq_true rfl) (Nat.le_of_ble_eq_true rfl)
            · refine s_aload hG dc11_step_41 rfl ?_
              refine s_getR hG kFc11_226 rfl dc11_step_43 (fun v43 => ?_)
              refine s_iload_n hG dc11_step_46 rfl ?_
              refine s_iald hG dc11_step_47 (fun v47 => ?_)
              refine s_goto hG 73 dc11_step_48 (by decide) ?_
              exact s_iret hG dc11_step_73 rfl (Nat.le_of_ble_eq_true rfl) (Nat.le_of_ble_eq_true rfl)
          · refine s_ldc hG dc11_step_34 kIc11_214 ?_
            exact s_iret hG dc11_step_36 rfl (Nat.le_of_ble_eq_true rfl) (Nat.le_of_ble_eq_true rfl)
def fc2_highest_23 (N : Nat) (K4 : Option Nat → Option Nat → Int32 → Int32 → Me → Option (Int32 × Me)) (l0 : Option Nat) (l1 : Option Nat) (l2 : Int32) (l3 : Int32) (σ : Me) : Option (Int32 × Me) :=
  K4 l0 l1 l2 (l3 + (1 : Int32)) σ
def fc2_highest_4 (N : Nat) : Nat → Option Nat → Option Nat → Int32 → Int32 → Me → Option (Int32 × Me)
  | 0, _, _, _, _, _ => none
  | n + 1, l0, l1, l2, l3, σ =>
    (qI σ 2 5 l0).bind fun v6 =>
    if v6 ≤ l3 then
      some (l2, σ)
    else
      (ldI σ l1 l3).bind fun v14 =>
      (ldI σ l1 l2).bind fun v17 =>
      if v14 ≤ v17 then
        fc2_highest_23 N (fc2_highest_4 N n) l0 l1 l2 l3 σ
      else
        fc2_highest_23 N (fc2_highest_4 N n) l0 l1 l3 l3 σ
def fc2_highest (N : Nat) (a0 : Nat) (x1 : Option Nat) (σ : Me) : Option (Int32 × Me) :=
  fc2_highest_4 N N (some a0) x1 (0 : Int32) (1 : Int32) σ
set_option maxRecDepth 20000 in
set_option maxHeartbeats 2000000 in
theorem pc2_highest_23 {Ω : Om} {Γ : Ga} {N : Nat} (hG : Good Ω Γ tc2_highest 1 0 0) {K4 : Option Nat → Option Nat → Int32 → Int32 → Me → Option (Int32 × Me)} (hK4 : ∀ (l0 : Option Nat) (l1 : Option Nat) (l2 : Int32) (l3 : Int32) (σ : Me), Sim Ω Γ 0 0 ιI 4 4 [(0, vR l0), (1, vR l1), (2, vI l2), (3, vI l3)] [] σ 0 0 (K4 l0 l1 l2 l3 σ)) (l0 : Option Nat) (l1 : Option Nat) (l2 : Int32) (l3 : Int32) (σ : Me) : Sim Ω Γ 0 0 ιI 4 23 [(0, vR l0), (1, vR l1), (2, vI l2), (3, vI l3)] [] σ 0 0 (fc2_highest_23 N K4 l0 l1 l2 l3 σ) := by
  unfold fc2_highest_23
  refine s_iinc (v := 1) hG dc2_highest_23 rfl (by decide) (by decide) ?_
  refine s_goto hG 4 dc2_highest_26 (by decide) ?_
  exact s_lv (lc rfl (lc rfl (lc rfl (lc rfl ln)))) (hK4 _ _ _ _ _)
set_option maxRecDepth 20000 in
set_option maxHeartbeats 2000000 in
theorem pc2_highest_4 {Ω : Om} {Γ : Ga} {N : Nat} (hG : Good Ω Γ tc2_highest 1 0 0)  : ∀ (n : Nat) (l0 : Option Nat) (l1 : Option Nat) (l2 : Int32) (l3 : Int32) (σ : Me), Sim Ω Γ 0 0 ιI 4 4 [(0, vR l0), (1, vR l1), (2, vI l2), (3, vI l3)] [] σ 0 0 (fc2_highest_4 N n l0 l1 l2 l3 σ) := by
  intro n
  induction n with
  | zero => intros; exact s_none
  | succ n ih =>
    intro l0 l1 l2 l3 σ
    unfold fc2_highest_4
    refine s_iload_n hG dc2_highest_4 rfl ?_
    refine s_aload_n hG dc2_highest_5 rfl ?_
    refine s_getI hG kFc2_33 rfl dc2_highest_6 (fun v6 => ?_)
    refine s_icmp_ge hG 29 dc2_highest_9 (by decide) ?_ ?_
    · refine s_iload_n hG dc2_highest_29 rfl ?_
      exact s_iret hG dc2_highest_30 rfl (Nat.le_of_ble_eq_true rfl) (Nat.le_of_ble_eq_true rfl)
    · refine s_aload_n hG dc2_highest_12 rfl ?_
      refine s_iload_n hG dc2_highest_13 rfl ?_
      refine s_iald hG dc2_highest_14 (fun v14 => ?_)
      refine s_aload_n hG dc2_highest_15 rfl ?_
      refine s_iload_n hG dc2_highest_16 rfl ?_
      refine s_iald hG dc2_highest_17 (fun v17 => ?_)
      refine s_icmp_le hG 23 dc2_highest_18 (by decide) ?_ ?_
      · exact s_lv (lc rfl (lc rfl (lc rfl (lc rfl ln)))) (pc2_highest_23 hG ih _ _ _ _ _)
      · refine s_iload_n hG dc2_highest_21 rfl ?_
        refine s_istore_n hG dc2_highest_22 (by decide) ?_
        exact s_lv (lc rfl (lc rfl (lc rfl (lc rfl ln)))) (pc2_highest_23 hG ih _ _ _ _ _)
set_option maxRecDepth 20000 in
set_option maxHeartbeats 2000000 in
theorem corc2_highest {Ω : Om} (N : Nat) (a0 : Nat) (x1 : Option Nat) (σ : Me) : Cor Ω tc2_highest 1 0 0 [vR (some a0), vR x1] σ ιI (fc2_highest N a0 x1 σ) := by
  refine Cor.of (by decide +kernel) (Nat.le_of_ble_eq_true rfl) (fun Γ hG => ?_)
  unfold fc2_highest
  show Sim Ω Γ 0 0 ιI 4 0 [(0, vR (some a0)), (1, vR x1)] [] σ 0 0 _
  refine s_iconst (v := 0) hG dc2_highest_0 (by decide) ?_
  refine s_istore_n hG dc2_highest_1 (by decide) ?_
  refine s_iconst (v := 1) hG dc2_highest_2 (by decide) ?_
  refine s_istore_n hG dc2_highest_3 (by decide) ?_
  exact s_lv (lc rfl (lc rfl (lc rfl (lc rfl ln)))) (pc2_highest_4 hG _ _ _ _ _ _)
def fc2_lowest_23 (N : Nat) (K4 : Option Nat → Option Nat → Int32 → Int32 → Me → Option (Int32 × Me)) (l0 : Option Nat) (l1 : Option Nat) (l2 : Int32) (l3 : Int32) (σ : Me) : Option (Int32 × Me) :=
  K4 l0 l1 l2 (l3 + (1 : Int32)) σ
def fc2_lowest_4 (N : Nat) : Nat → Option Nat → Option Nat → Int32 → Int32 → Me → Option (Int32 × Me)
  | 0, _, _, _, _, _ => none
  | n + 1, l0, l1, l2, l3, σ =>
    (qI σ 2 5 l0).bind fun v6 =>
    if v6 ≤ l3 then
      some (l2, σ)
    else
      (ldI σ l1 l3).bind fun v14 =>
      (ldI σ l1 l2).bind fun v17 =>
      if v17 ≤ v14 then
        fc2_lowest_23 N (fc2_lowest_4 N n) l0 l1 l2 l3 σ
      else
        fc2_lowest_23 N (fc2_lowest_4 N n) l0 l1 l3 l3 σ
def fc2_lowest (N : Nat) (a0 : Nat) (x1 : Option Nat) (σ : Me) : Option (Int32 × Me) :=
  fc2_lowest_4 N N (some a0) x1 (0 : Int32) (1 : Int32) σ
set_option maxRecDepth 20000 in
set_option maxHeartbeats 2000000 in
theorem pc2_lowest_23 {Ω : Om} {Γ : Ga} {N : Nat} (hG : Good Ω Γ tc2_lowest 1 0 0) {K4 : Option Nat → Option Nat → Int32 → Int32 → Me → Option (Int32 × Me)} (hK4 : ∀ (l0 : Option Nat) (l1 : Option Nat) (l2 : Int32) (l3 : Int32) (σ : Me), Sim Ω Γ 0 0 ιI 4 4 [(0, vR l0), (1, vR l1), (2, vI l2), (3, vI l3)] [] σ 0 0 (K4 l0 l1 l2 l3 σ)) (l0 : Option Nat) (l1 : Option Nat) (l2 : Int32) (l3 : Int32) (σ : Me) : Sim Ω Γ 0 0 ιI 4 23 [(0, vR l0), (1, vR l1), (2, vI l2), (3, vI l3)] [] σ 0 0 (fc2_lowest_23 N K4 l0 l1 l2 l3 σ) := by
  unfold fc2_lowest_23
  refine s_iinc (v := 1) hG dc2_lowest_23 rfl (by decide) (by decide) ?_
  refine s_goto hG 4 dc2_lowest_26 (by decide) ?_
  exact s_lv (lc rfl (lc rfl (lc rfl (lc rfl ln)))) (hK4 _ _ _ _ _)
set_option maxRecDepth 20000 in
set_option maxHeartbeats 2000000 in
theorem pc2_lowest_4 {Ω : Om} {Γ : Ga} {N : Nat} (hG : Good Ω Γ tc2_lowest 1 0 0)  : ∀ (n : Nat) (l0 : Option Nat) (l1 : Option Nat) (l2 : Int32) (l3 : Int32) (σ : Me), Sim Ω Γ 0 0 ιI 4 4 [(0, vR l0), (1, vR l1), (2, vI l2), (3, vI l3)] [] σ 0 0 (fc2_lowest_4 N n l0 l1 l2 l3 σ) := by
  intro n
  induction n with
  | zero => intros; exact s_none
  | succ n ih =>
    intro l0 l1 l2 l3 σ
    unfold fc2_lowest_4
    refine s_iload_n hG dc2_lowest_4 rfl ?_
    refine s_aload_n hG dc2_lowest_5 rfl ?_
    refine s_getI hG kFc2_33 rfl dc2_lowest_6 (fun v6 => ?_)
    refine s_icmp_ge hG 29 dc2_lowest_9 (by decide) ?_ ?_
    · refine s_iload_n hG dc2_lowest_29 rfl ?_
      exact s_iret hG dc2_lowest_30 rfl (Nat.le_of_ble_eq_true rfl) (Nat.le_of_ble_eq_true rfl)
    · refine s_aload_n hG dc2_lowest_12 rfl ?_
      refine s_iload_n hG dc2_lowest_13 rfl ?_
      refine s_iald hG dc2_lowest_14 (fun v14 => ?_)
      refine s_aload_n hG dc2_lowest_15 rfl ?_
      refine s_iload_n hG dc2_lowest_16 rfl ?_
      refine s_iald hG dc2_lowest_17 (fun v17 => ?_)
      refine s_icmp_ge hG 23 dc2_lowest_18 (by decide) ?_ ?_
      · exact s_lv (lc rfl (lc rfl (lc rfl (lc rfl ln)))) (pc2_lowest_23 hG ih _ _ _ _ _)
      · refine s_iload_n hG dc2_lowest_21 rfl ?_
        refine s_istore_n hG dc2_lowest_22 (by decide) ?_
        exact s_lv (lc rfl (lc rfl (lc rfl (lc rfl ln)))) (pc2_lowest_23 hG ih _ _ _ _ _)
set_option maxRecDepth 20000 in
set_option maxHeartbeats 2000000 in
theorem corc2_lowest {Ω : Om} (N : Nat) (a0 : Nat) (x1 : Option Nat) (σ : Me) : Cor Ω tc2_lowest 1 0 0 [vR (some a0), vR x1] σ ιI (fc2_lowest N a0 x1 σ) := by
  refine Cor.of (by decide +kernel) (Nat.le_of_ble_eq_true rfl) (fun Γ hG => ?_)
  unfold fc2_lowest
  show Sim Ω Γ 0 0 ιI 4 0 [(0, vR (some a0)), (1, vR x1)] [] σ 0 0 _
  refine s_iconst (v := 0) hG dc2_lowest_0 (by decide) ?_
  refine s_istore_n hG dc2_lowest_1 (by decide) ?_
  refine s_iconst (v := 1) hG dc2_lowest_2 (by decide) ?_
  refine s_istore_n hG dc2_lowest_3 (by decide) ?_
  exact s_lv (lc rfl (lc rfl (lc rfl (lc rfl ln)))) (pc2_lowest_4 hG _ _ _ _ _ _)
def fc2_thirsty_33 (N : Nat) (K4 : Option Nat → Int32 → Int32 → Me → Option (Int32 × Me)) (l0 : Option Nat) (l1 : Int32) (l2 : Int32) (σ : Me) : Option (Int32 × Me) :=
  K4 l0 l1 (l2 + (1 : Int32)) σ
def fc2_thirsty_4 (N : Nat) : Nat → Option Nat → Int32 → Int32 → Me → Option (Int32 × Me)
  | 0, _, _, _, _ => none
  | n + 1, l0, l1, l2, σ =>
    (qI σ 2 5 l0).bind fun v6 =>
    if v6 ≤ l2 then
      some (l1, σ)
    else
      (qR σ 2 1 l0).bind fun v13 =>
      (ldI σ v13 l2).bind fun v17 =>
      (qR σ 2 2 l0).bind fun v19 =>
      (ldI σ v19 l2).bind fun v23 =>
      if v17 ≤ v23 then
        fc2_thirsty_33 N (fc2_thirsty_4 N n) l0 l1 l2 σ
      else
        fc2_thirsty_33 N (fc2_thirsty_4 N n) l0 (l1 ||| ((1 : Int32) <<< (l2 &&& 31))) l2 σ
def fc2_thirsty (N : Nat) (a0 : Nat) (σ : Me) : Option (Int32 × Me) :=
  fc2_thirsty_4 N N (some a0) (0 : Int32) (0 : Int32) σ
set_option maxRecDepth 20000 in
set_option maxHeartbeats 2000000 in
theorem pc2_thirsty_33 {Ω : Om} {Γ : Ga} {N : Nat} (hG : Good Ω Γ tc2_thirsty 1 0 0) {K4 : Option Nat → Int32 → Int32 → Me → Option (Int32 × Me)} (hK4 : ∀ (l0 : Option Nat) (l1 : Int32) (l2 : Int32) (σ : Me), Sim Ω Γ 0 0 ιI 3 4 [(0, vR l0), (1, vI l1), (2, vI l2)] [] σ 0 0 (K4 l0 l1 l2 σ)) (l0 : Option Nat) (l1 : Int32) (l2 : Int32) (σ : Me) : Sim Ω Γ 0 0 ιI 3 33 [(0, vR l0), (1, vI l1), (2, vI l2)] [] σ 0 0 (fc2_thirsty_33 N K4 l0 l1 l2 σ) := by
  unfold fc2_thirsty_33
  refine s_iinc (v := 1) hG dc2_thirsty_33 rfl (by decide) (by decide) ?_
  refine s_goto hG 4 dc2_thirsty_36 (by decide) ?_
  exact s_lv (lc rfl (lc rfl (lc rfl ln))) (hK4 _ _ _ _)
set_option maxRecDepth 20000 in
set_option maxHeartbeats 2000000 in
theorem pc2_thirsty_4 {Ω : Om} {Γ : Ga} {N : Nat} (hG : Good Ω Γ tc2_thirsty 1 0 0)  : ∀ (n : Nat) (l0 : Option Nat) (l1 : Int32) (l2 : Int32) (σ : Me), Sim Ω Γ 0 0 ιI 3 4 [(0, vR l0), (1, vI l1), (2, vI l2)] [] σ 0 0 (fc2_thirsty_4 N n l0 l1 l2 σ) := by
  intro n
  induction n with
  | zero => intros; exact s_none
  | succ n ih =>
    intro l0 l1 l2 σ
    unfold fc2_thirsty_4
    refine s_iload_n hG dc2_thirsty_4 rfl ?_
    refine s_aload_n hG dc2_thirsty_5 rfl ?_
    refine s_getI hG kFc2_33 rfl dc2_thirsty_6 (fun v6 => ?_)
    refine s_icmp_ge hG 39 dc2_thirsty_9 (by decide) ?_ ?_
    · refine s_iload_n hG dc2_thirsty_39 rfl ?_
      exact s_iret hG dc2_thirsty_40 rfl (Nat.le_of_ble_eq_true rfl) (Nat.le_of_ble_eq_true rfl)
    · refine s_aload_n hG dc2_thirsty_12 rfl ?_
      refine s_getR hG kFc2_15 rfl dc2_thirsty_13 (fun v13 => ?_)
      refine s_iload_n hG dc2_thirsty_16 rfl ?_
      refine s_iald hG dc2_thirsty_17 (fun v17 => ?_)
      refine s_aload_n hG dc2_thirsty_18 rfl ?_
      refine s_getR hG kFc2_18 rfl dc2_thirsty_19 (fun v19 => ?_)
      refine s_iload_n hG dc2_thirsty_22 rfl ?_
      refine s_iald hG dc2_thirsty_23 (fun v23 => ?_)
      refine s_icmp_le hG 33 dc2_thirsty_24 (by decide) ?_ ?_
      · exact s_lv (lc rfl (lc rfl (lc rfl ln))) (pc2_thirsty_33 hG ih _ _ _ _)
      · refine s_iload_n hG dc2_thirsty_27 rfl ?_
        refine s_iconst (v := 1) hG dc2_thirsty_28 (by decide) ?_
        refine s_iload_n hG dc2_thirsty_29 rfl ?_
        refine s_ishl hG dc2_thirsty_30 ?_
        refine s_ior hG dc2_thirsty_31 ?_
        refine s_istore_n hG dc2_thirsty_32 (by decide) ?_
        exact s_lv (lc rfl (lc rfl (lc rfl ln))) (pc2_thirsty_33 hG ih _ _ _ _)
set_option maxRecDepth 20000 in
set_option maxHeartbeats 2000000 in
theorem corc2_thirsty {Ω : Om} (N : Nat) (a0 : Nat) (σ : Me) : Cor Ω tc2_thirsty 1 0 0 [vR (some a0)] σ ιI (fc2_thirsty N a0 σ) := by
  refine Cor.of (by decide +kernel) (Nat.le_of_ble_eq_true rfl) (fun Γ hG => ?_)
  unfold fc2_thirsty
  show Sim Ω Γ 0 0 ιI 3 0 [(0, vR (some a0))] [] σ 0 0 _
  refine s_iconst (v := 0) hG dc2_thirsty_0 (by decide) ?_
  refine s_istore_n hG dc2_thirsty_1 (by decide) ?_
  refine s_iconst (v := 0) hG dc2_thirsty_2 (by decide) ?_
  refine s_istore_n hG dc2_thirsty_3 (by decide) ?_
  exact s_lv (lc rfl (lc rfl (lc rfl ln))) (pc2_thirsty_4 hG _ _ _ _ _)
def fc11_all (N : Nat) (a0 : Nat) (x1 : Int32) (σ : Me) : Option (Int32 × Me) :=
  (qR σ 11 10 (some a0)).bind fun v1 =>
  (qI σ 2 5 v1).bind fun v4 =>
  if v4 = 0 then
    some ((-1 : Int32), σ)
  else
    if x1 = (0 : Int32) then
      (qR σ 11 10 (some a0)).bind fun v57 =>
      (qR σ 11 10 (some a0)).bind fun v61 =>
      (qR σ 2 4 v61).bind fun v64 =>
      (dr σ v57 (.inl 2)).bind fun a =>
      (fc2_lowest N a v64 σ).bind fun p67 =>
      some (p67.1, p67.2)
    else
    if x1 = (1 : Int32) then
      (qR σ 11 10 (some a0)).bind fun v72 =>
      (qR σ 11 10 (some a0)).bind fun v76 =>
      (qR σ 2 2 v76).bind fun v79 =>
      (dr σ v72 (.inl 2)).bind fun a =>
      (fc2_lowest N a v79 σ).bind fun p82 =>
      some (p82.1, p82.2)
    else
    if x1 = (2 : Int32) then
      (qR σ 11 10 (some a0)).bind fun v87 =>
      (qR σ 11 10 (some a0)).bind fun v91 =>
      (qR σ 2 0 v91).bind fun v94 =>
      (dr σ v87 (.inl 2)).bind fun a =>
      (fc2_highest N a v94 σ).bind fun p97 =>
      some (p97.1, p97.2)
    else
    if x1 = (3 : Int32) then
      (qR σ 11 10 (some a0)).bind fun v102 =>
      (qR σ 11 10 (some a0)).bind fun v106 =>
      (qR σ 2 1 v106).bind fun v109 =>
      (dr σ v102 (.inl 2)).bind fun a =>
      (fc2_highest N a v109 σ).bind fun p112 =>
      some (p112.1, p112.2)
    else
    if x1 = (4 : Int32) then
      (qR σ 11 10 (some a0)).bind fun v117 =>
      (qR σ 11 10 (some a0)).bind fun v121 =>
      (qR σ 2 0 v121).bind fun v124 =>
      (dr σ v117 (.inl 2)).bind fun a =>
      (fc2_sum N a v124 σ).bind fun p127 =>
      some (p127.1, p127.2)
    else
    if x1 = (5 : Int32) then
      (qR σ 11 10 (some a0)).bind fun v132 =>
      (qR σ 2 1 v132).bind fun v135 =>
      (qR σ 11 10 (some a0)).bind fun v139 =>
      (qR σ 11 10 (some a0)).bind fun v143 =>
      (qR σ 2 1 v143).bind fun v146 =>
      (dr σ v139 (.inl 2)).bind fun a =>
      (fc2_highest N a v146 σ).bind fun p149 =>
      (ldI p149.2 v135 p149.1).bind fun v152 =>
      (qR p149.2 11 10 (some a0)).bind fun v154 =>
      (qI p149.2 2 5 v154).bind fun v157 =>
      some ((v152 * v157), p149.2)
    else
    if x1 = (6 : Int32) then
      (qR σ 11 10 (some a0)).bind fun v163 =>
      (dr σ v163 (.inl 2)).bind fun a =>
      (fc2_thirsty N a σ).bind fun p166 =>
      some (p166.1, p166.2)
    else
    some ((-1 : Int32), σ)
set_option maxRecDepth 20000 in
set_option maxHeartbeats 2000000 in
theorem corc11_all {Ω : Om} (N : Nat) (a0 : Nat) (x1 : Int32) (σ : Me) : Cor Ω tc11_all 2 0 0 [vR (some a0), vI x1] σ ιI (fc11_all N a0 x1 σ) := by
  refine Cor.of (by decide +kernel) (Nat.le_of_ble_eq_true rfl) (fun Γ hG => ?_)
  unfold fc11_all
  show Sim Ω Γ 0 0 ιI 2 0 [(0, vR (some a0)), (1, vI x1)] [] σ 0 0 _
  refine s_aload_n hG dc11_all_0 rfl ?_
  refine s_getR hG kFc11_58 rfl dc11_all_1 (fun v1 => ?_)
  refine s_getI hG kFc11_154 rfl dc11_all_4 (fun v4 => ?_)
  refine s_if_ne hG 12 dc11_all_7 (by decide) ?_ ?_
  · refine s_iload_n hG dc11_all_12 rfl ?_
    refine s_split _ (fun e0 => ?_) (fun e0 => ?_)
    · refine s_tabIn hG 56 dc11_all_13 (by rw [e0]; decide) (by rw [e0]; decide) (by rw [e0]; rfl) (by decide) ?_
      refine s_aload_n hG dc11_all_56 rfl ?_
      refine s_getR hG kFc11_58 rfl dc11_all_57 (fun v57 => ?_)
      refine s_aload_n hG dc11_all_60 rfl ?_
      refine s_getR hG kFc11_58 rfl dc11_all_61 (fun v61 => ?_)
      refine s_getR hG kFc11_198 rfl dc11_all_64 (fun v64 => ?_)
      refine s_callVi hG kMc11_235 (fun a => corc2_lowest N a _ _) ⟨by decide, rfl⟩ rfl (by first | decide | omega) dc11_all_67 rfl rfl (Nat.le_of_ble_eq_true rfl) ⟨Nat.le_of_ble_eq_true rfl, Nat.le_of_ble_eq_true rfl⟩ (fun p67 => ?_)
      exact s_iret hG dc11_all_70 rfl (Nat.le_of_ble_eq_true rfl) (Nat.le_of_ble_eq_true rfl)
    · refine s_split _ (fun e1 => ?_) (fun e1 => ?_)
      · refine s_tabIn hG 71 dc11_all_13 (by rw [e1]; decide) (by rw [e1]; decide) (by rw [e1]; rfl) (by decide) ?_
        refine s_aload_n hG dc11_all_71 rfl ?_
        refine s_getR hG kFc11_58 rfl dc11_all_72 (fun v72 => ?_)
        refine s_aload_n hG dc11_all_75 rfl ?_
        refine s_getR hG kFc11_58 rfl dc11_all_76 (fun v76 => ?_)
        refine s_getR hG kFc11_192 rfl dc11_all_79 (fun v79 => ?_)
        refine s_callVi hG kMc11_235 (fun a => corc2_lowest N a _ _) ⟨by decide, rfl⟩ rfl (by first | decide | omega) dc11_all_82 rfl rfl (Nat.le_of_ble_eq_true rfl) ⟨Nat.le_of_ble_eq_true rfl, Nat.le_of_ble_eq_true rfl⟩ (fun p82 => ?_)
        exact s_iret hG dc11_all_85 rfl (Nat.le_of_ble_eq_true rfl) (Nat.le_of_ble_eq_true rfl)
      · refine s_split _ (fun e2 => ?_) (fun e2 => ?_)
        · refine s_tabIn hG 86 dc11_all_13 (by rw [e2]; decide) (by rw [e2]; decide) (by rw [e2]; rfl) (by decide) ?_
          refine s_aload_n hG dc11_all_86 rfl ?_
          refine s_getR hG kFc11_58 rfl dc11_all_87 (fun v87 => ?_)
          refine s_aload_n hG dc11_all_90 rfl ?_
          refine s_getR hG kFc11_58 rfl dc11_all_91 (fun v91 => ?_)
          refine s_getR hG kFc11_186 rfl dc11_all_94 (fun v94 => ?_)
          refine s_callVi hG kMc11_238 (fun a => corc2_highest N a _ _) ⟨by decide, rfl⟩ rfl (by first | decide | omega) dc11_all_97 rfl rfl (Nat.le_of_ble_eq_true rfl) ⟨Nat.le_of_ble_eq_true rfl, Nat.le_of_ble_eq_true rfl⟩ (fun p97 => ?_)
          exact s_iret hG dc11_all_100 rfl (Nat.le_of_ble_eq_true rfl) (Nat.le_of_ble_eq_true rfl)
        · refine s_split _ (fun e3 => ?_) (fun e3 => ?_)
          · refine s_tabIn hG 101 dc11_all_13 (by rw [e3]; decide) (by rw [e3]; decide) (by rw [e3]; rfl) (by decide) ?_
            refine s_aload_n hG dc11_all_101 rfl ?_
            refine s_getR hG kFc11_58 rfl dc11_all_102 (fun v102 => ?_)
            refine s_aload_n hG dc11_all_105 rfl ?_
            refine s_getR hG kFc11_58 rfl dc11_all_106 (fun v106 => ?_)
            refine s_getR hG kFc11_189 rfl dc11_all_109 (fun v109 => ?_)
            refine s_callVi hG kMc11_238 (fun a => corc2_highest N a _ _) ⟨by decide, rfl⟩ rfl (by first | decide | omega) dc11_all_112 rfl rfl (Nat.le_of_ble_eq_true rfl) ⟨Nat.le_of_ble_eq_true rfl, Nat.le_of_ble_eq_true rfl⟩ (fun p112 => ?_)
            exact s_iret hG dc11_all_115 rfl (Nat.le_of_ble_eq_true rfl) (Nat.le_of_ble_eq_true rfl)
          · refine s_split _ (fun e4 => ?_) (fun e4 => ?_)
            · refine s_tabIn hG 116 dc11_all_13 (by rw [e4]; decide) (by rw [e4]; decide) (by rw [e4]; rfl) (by decide) ?_
              refine s_aload_n hG dc11_all_116 rfl ?_
              refine s_getR hG kFc11_58 rfl dc11_all_117 (fun v117 => ?_)
              refine s_aload_n hG dc11_all_120 rfl ?_
              refine s_getR hG kFc11_58 rfl dc11_all_121 (fun v121 => ?_)
              refine s_getR hG kFc11_186 rfl dc11_all_124 (fun v124 => ?_)
              refine s_callVi hG kMc11_204 (fun a => corc2_sum N a _ _) ⟨by decide, rfl⟩ rfl (by first | decide | omega) dc11_all_127 rfl rfl (Nat.le_of_ble_eq_true rfl) ⟨Nat.le_of_ble_eq_true rfl, Nat.le_of_ble_eq_true rfl⟩ (fun p127 => ?_)
              exact s_iret hG dc11_all_130 rfl (Nat.le_of_ble_eq_true rfl) (Nat.le_of_ble_eq_true rfl)
            · refine s_split _ (fun e5 => ?_) (fun e5 => ?_)
              · refine s_tabIn hG 131 dc11_all_13 (by rw [e5]; decide) (by rw [e5]; decide) (by rw [e5]; rfl) (by decide) ?_
                refine s_aload_n hG dc11_all_131 rfl ?_
                refine s_getR hG kFc11_58 rfl dc11_all_132 (fun v132 => ?_)
                refine s_getR hG kFc11_189 rfl dc11_all_135 (fun v135 => ?_)
                refine s_aload_n hG dc11_all_138 rfl ?_
                refine s_getR hG kFc11_58 rfl dc11_all_139 (fun v139 => ?_)
                refine s_aload_n hG dc11_all_142 rfl ?_
                refine s_getR hG kFc11_58 rfl dc11_all_143 (fun v143 => ?_)
                refine s_getR hG kFc11_189 rfl dc11_all_146 (fun v146 => ?_)
                refine s_callVi hG kMc11_238 (fun a => corc2_highest N a _ _) ⟨by decide, rfl⟩ rfl (by first | decide | omega) dc11_all_149 rfl rfl (Nat.le_of_ble_eq_true rfl) ⟨Nat.le_of_ble_eq_true rfl, Nat.le_of_ble_eq_true rfl⟩ (fun p149 => ?_)
                refine s_iald hG dc11_all_152 (fun v152 => ?_)
                refine s_aload_n hG dc11_all_153 rfl ?_
                refine s_getR hG kFc11_58 rfl dc11_all_154 (fun v154 => ?_)
                refine s_getI hG kFc11_154 rfl dc11_all_157 (fun v157 => ?_)
                refine s_imul hG dc11_all_160 ?_
                exact s_iret hG dc11_all_161 rfl (Nat.le_of_ble_eq_true rfl) (Nat.le_of_ble_eq_true rfl)
              · refine s_split _ (fun e6 => ?_) (fun e6 => ?_)
                · refine s_tabIn hG 162 dc11_all_13 (by rw [e6]; decide) (by rw [e6]; decide) (by rw [e6]; rfl) (by decide) ?_
                  refine s_aload_n hG dc11_all_162 rfl ?_
                  refine s_getR hG kFc11_58 rfl dc11_all_163 (fun v163 => ?_)
                  refine s_callVi hG kMc11_241 (fun a => corc2_thirsty N a _) ⟨by decide, rfl⟩ rfl (by first | decide | omega) dc11_all_166 rfl rfl (Nat.le_of_ble_eq_true rfl) ⟨Nat.le_of_ble_eq_true rfl, Nat.le_of_ble_eq_true rfl⟩ (fun p166 => ?_)
                  exact s_iret hG dc11_all_169 rfl (Nat.le_of_ble_eq_true rfl) (Nat.le_of_ble_eq_true rfl)
                · refine s_tabOut hG 170 dc11_all_13 (tab_out (lo := 0) (n := 6) (by decide) (by decide) (show ∀ q ∈ [(0 : Int32), (1 : Int32), (2 : Int32), (3 : Int32), (4 : Int32), (5 : Int32), (6 : Int32)], ¬ _ = q from (List.forall_mem_cons.mpr ⟨e0, (List.forall_mem_cons.mpr ⟨e1, (List.forall_mem_cons.mpr ⟨e2, (List.forall_mem_cons.mpr ⟨e3, (List.forall_mem_cons.mpr ⟨e4, (List.forall_mem_cons.mpr ⟨e5, (List.forall_mem_cons.mpr ⟨e6, (fun q h => absurd h List.not_mem_nil)⟩)⟩)⟩)⟩)⟩)⟩)⟩))) (by decide) ?_
                  refine s_iconst (v := -1) hG dc11_all_170 (by decide) ?_
                  exact s_iret hG dc11_all_171 rfl (Nat.le_of_ble_eq_true rfl) (Nat.le_of_ble_eq_true rfl)
  · refine s_iconst (v := -1) hG dc11_all_10 (by decide) ?_
    exact s_iret hG dc11_all_11 rfl (Nat.le_of_ble_eq_true rfl) (Nat.le_of_ble_eq_true rfl)
def fc2_has (N : Nat) (a0 : Nat) (x1 : Int32) (σ : Me) : Option (Int32 × Me) :=
  if x1 < 0 then
    retZ (0 : Int32) σ
  else
    (qI σ 2 5 (some a0)).bind fun v6 =>
    if v6 ≤ x1 then
      retZ (0 : Int32) σ
    else
      retZ (1 : Int32) σ
set_option maxRecDepth 20000 in
set_option maxHeartbeats 2000000 in
theorem corc2_has {Ω : Om} (N : Nat) (a0 : Nat) (x1 : Int32) (σ : Me) : Cor Ω tc2_has 1 0 0 [vR (some a0), vI x1] σ ιI (fc2_has N a0 x1 σ) := by
  refine Cor.of (by decide +kernel) (Nat.le_of_ble_eq_true rfl) (fun Γ hG => ?_)
  unfold fc2_has
  show Sim Ω Γ 0 0 ιI 2 0 [(0, vR (some a0)), (1, vI x1)] [] σ 0 0 _
  refine s_iload_n hG dc2_has_0 rfl ?_
  refine s_if_lt hG 16 dc2_has_1 (by decide) ?_ ?_
  · refine s_iconst (v := 0) hG dc2_has_16 (by decide) ?_
    exact s_zret hG dc2_has_17 rfl (Nat.le_of_ble_eq_true rfl) (Nat.le_of_ble_eq_true rfl)
  · refine s_iload_n hG dc2_has_4 rfl ?_
    refine s_aload_n hG dc2_has_5 rfl ?_
    refine s_getI hG kFc2_33 rfl dc2_has_6 (fun v6 => ?_)
    refine s_icmp_ge hG 16 dc2_has_9 (by decide) ?_ ?_
    · refine s_iconst (v := 0) hG dc2_has_16 (by decide) ?_
      exact s_zret hG dc2_has_17 rfl (Nat.le_of_ble_eq_true rfl) (Nat.le_of_ble_eq_true rfl)
    · refine s_iconst (v := 1) hG dc2_has_12 (by decide) ?_
      refine s_goto hG 17 dc2_has_13 (by decide) ?_
      exact s_zret hG dc2_has_17 rfl (Nat.le_of_ble_eq_true rfl) (Nat.le_of_ble_eq_true rfl)
def fc11_shares (N : Nat) (a0 : Nat) (x1 : Int32) (x2 : Int32) (σ : Me) : Option (Int32 × Me) :=
  (qR σ 11 10 (some a0)).bind fun v1 =>
  (dr σ v1 (.inl 2)).bind fun a =>
  (fc2_has N a x1 σ).bind fun p5 =>
  if p5.1 = 0 then
    some ((-1 : Int32), p5.2)
  else
    if x2 < 0 then
      some ((-1 : Int32), p5.2)
    else
      if x2 ≤ (999 : Int32) then
        (qR p5.2 11 10 (some a0)).bind fun v25 =>
        (qR p5.2 11 10 (some a0)).bind fun v29 =>
        (qR p5.2 2 0 v29).bind fun v32 =>
        (dr p5.2 v25 (.inl 2)).bind fun a =>
        (fc2_sum N a v32 p5.2).bind fun p35 =>
        if p35.1 = 0 then
          some ((0 : Int32), p35.2)
        else
          (qR p35.2 11 10 (some a0)).bind fun v49 =>
          (qR p35.2 2 0 v49).bind fun v52 =>
          (ldI p35.2 v52 x1).bind fun v56 =>
          (dvI (x2 * v56) p35.1).bind fun v59 =>
          some (v59, p35.2)
      else
        some ((-1 : Int32), p5.2)
set_option maxRecDepth 20000 in
set_option maxHeartbeats 2000000 in
theorem corc11_shares {Ω : Om} (N : Nat) (a0 : Nat) (x1 : Int32) (x2 : Int32) (σ : Me) : Cor Ω tc11_shares 2 0 0 [vR (some a0), vI x1, vI x2] σ ιI (fc11_shares N a0 x1 x2 σ) := by
  refine Cor.of (by decide +kernel) (Nat.le_of_ble_eq_true rfl) (fun Γ hG => ?_)
  unfold fc11_shares
  show Sim Ω Γ 0 0 ιI 4 0 [(0, vR (some a0)), (1, vI x1), (2, vI x2)] [] σ 0 0 _
  refine s_aload_n hG dc11_shares_0 rfl ?_
  refine s_getR hG kFc11_58 rfl dc11_shares_1 (fun v1 => ?_)
  refine s_iload_n hG dc11_shares_4 rfl ?_
  refine s_callVi hG kMc11_180 (fun a => corc2_has N a _ _) ⟨by decide, rfl⟩ rfl (by first | decide | omega) dc11_shares_5 rfl rfl (Nat.le_of_ble_eq_true rfl) ⟨Nat.le_of_ble_eq_true rfl, Nat.le_of_ble_eq_true rfl⟩ (fun p5 => ?_)
  refine s_if_eq hG 22 dc11_shares_8 (by decide) ?_ ?_
  · refine s_iconst (v := -1) hG dc11_shares_22 (by decide) ?_
    exact s_iret hG dc11_shares_23 rfl (Nat.le_of_ble_eq_true rfl) (Nat.le_of_ble_eq_true rfl)
  · refine s_iload_n hG dc11_shares_11 rfl ?_
    refine s_if_lt hG 22 dc11_shares_12 (by decide) ?_ ?_
    · refine s_iconst (v := -1) hG dc11_shares_22 (by decide) ?_
      exact s_iret hG dc11_shares_23 rfl (Nat.le_of_ble_eq_true rfl) (Nat.le_of_ble_eq_true rfl)
    · refine s_iload_n hG dc11_shares_15 rfl ?_
      refine s_sipush (v := 999) hG dc11_shares_16 (by decide) ?_
      refine s_icmp_le hG 24 dc11_shares_19 (by decide) ?_ ?_
      · refine s_aload_n hG dc11_shares_24 rfl ?_
        refine s_getR hG kFc11_58 rfl dc11_shares_25 (fun v25 => ?_)
        refine s_aload_n hG dc11_shares_28 rfl ?_
        refine s_getR hG kFc11_58 rfl dc11_shares_29 (fun v29 => ?_)
        refine s_getR hG kFc11_186 rfl dc11_shares_32 (fun v32 => ?_)
        refine s_callVi hG kMc11_204 (fun a => corc2_sum N a _ _) ⟨by decide, rfl⟩ rfl (by first | decide | omega) dc11_shares_35 rfl rfl (Nat.le_of_ble_eq_true rfl) ⟨Nat.le_of_ble_eq_true rfl, Nat.le_of_ble_eq_true rfl⟩ (fun p35 => ?_)
        refine s_istore_n hG dc11_shares_38 (by decide) ?_
        refine s_iload_n hG dc11_shares_39 rfl ?_
        refine s_if_ne hG 47 dc11_shares_40 (by decide) ?_ ?_
        · refine s_iload_n hG dc11_shares_47 rfl ?_
          refine s_aload_n hG dc11_shares_48 rfl ?_
          refine s_getR hG kFc11_58 rfl dc11_shares_49 (fun v49 => ?_)
          refine s_getR hG kFc11_186 rfl dc11_shares_52 (fun v52 => ?_)
          refine s_iload_n hG dc11_shares_55 rfl ?_
          refine s_iald hG dc11_shares_56 (fun v56 => ?_)
          refine s_imul hG dc11_shares_57 ?_
          refine s_iload_n hG dc11_shares_58 rfl ?_
          refine s_idiv hG dc11_shares_59 (fun v59 => ?_)
          exact s_iret hG dc11_shares_60 rfl (Nat.le_of_ble_eq_true rfl) (Nat.le_of_ble_eq_true rfl)
        · refine s_iconst (v := 0) hG dc11_shares_43 (by decide) ?_
          refine s_goto hG 60 dc11_shares_44 (by decide) ?_
          exact s_iret hG dc11_shares_60 rfl (Nat.le_of_ble_eq_true rfl) (Nat.le_of_ble_eq_true rfl)
      · refine s_iconst (v := -1) hG dc11_shares_22 (by decide) ?_
        exact s_iret hG dc11_shares_23 rfl (Nat.le_of_ble_eq_true rfl) (Nat.le_of_ble_eq_true rfl)
def fc11_isSomeAtOnce (N : Nat) (x0 : Int32) (σ : Me) : Option (Int32 × Me) :=
  if x0 < (1 : Int32) then
    retZ (0 : Int32) σ
  else
    if (20 : Int32) < x0 then
      retZ (0 : Int32) σ
    else
      retZ (1 : Int32) σ
set_option maxRecDepth 20000 in
set_option maxHeartbeats 2000000 in
theorem corc11_isSomeAtOnce {Ω : Om} (N : Nat) (x0 : Int32) (σ : Me) : Cor Ω tc11_isSomeAtOnce 1 0 0 [vI x0] σ ιI (fc11_isSomeAtOnce N x0 σ) := by
  refine Cor.of (by decide +kernel) (Nat.le_of_ble_eq_true rfl) (fun Γ hG => ?_)
  unfold fc11_isSomeAtOnce
  show Sim Ω Γ 0 0 ιI 1 0 [(0, vI x0)] [] σ 0 0 _
  refine s_iload_n hG dc11_isSomeAtOnce_0 rfl ?_
  refine s_iconst (v := 1) hG dc11_isSomeAtOnce_1 (by decide) ?_
  refine s_icmp_lt hG 15 dc11_isSomeAtOnce_2 (by decide) ?_ ?_
  · refine s_iconst (v := 0) hG dc11_isSomeAtOnce_15 (by decide) ?_
    exact s_zret hG dc11_isSomeAtOnce_16 rfl (Nat.le_of_ble_eq_true rfl) (Nat.le_of_ble_eq_true rfl)
  · refine s_iload_n hG dc11_isSomeAtOnce_5 rfl ?_
    refine s_bipush (v := 20) hG dc11_isSomeAtOnce_6 (by decide) ?_
    refine s_icmp_gt hG 15 dc11_isSomeAtOnce_8 (by decide) ?_ ?_
    · refine s_iconst (v := 0) hG dc11_isSomeAtOnce_15 (by decide) ?_
      exact s_zret hG dc11_isSomeAtOnce_16 rfl (Nat.le_of_ble_eq_true rfl) (Nat.le_of_ble_eq_true rfl)
    · refine s_iconst (v := 1) hG dc11_isSomeAtOnce_11 (by decide) ?_
      refine s_goto hG 16 dc11_isSomeAtOnce_12 (by decide) ?_
      exact s_zret hG dc11_isSomeAtOnce_16 rfl (Nat.le_of_ble_eq_true rfl) (Nat.le_of_ble_eq_true rfl)
def fc11_buyers_61 (N : Nat) (K23 : Option Nat → Int32 → Int32 → Int32 → Me → Option (Int32 × Me)) (l0 : Option Nat) (l1 : Int32) (l2 : Int32) (l3 : Int32) (σ : Me) : Option (Int32 × Me) :=
  K23 l0 l1 l2 (l3 + (1 : Int32)) σ
def fc11_buyers_23 (N : Nat) : Nat → Option Nat → Int32 → Int32 → Int32 → Me → Option (Int32 × Me)
  | 0, _, _, _, _, _ => none
  | n + 1, l0, l1, l2, l3, σ =>
    (qR σ 11 10 l0).bind fun v25 =>
    (qI σ 2 5 v25).bind fun v28 =>
    if v28 ≤ l3 then
      some (l2, σ)
    else
      (qR σ 11 10 l0).bind fun v35 =>
      (qR σ 2 4 v35).bind fun v38 =>
      (ldI σ v38 l3).bind fun v42 =>
      (qR σ 11 10 l0).bind fun v45 =>
      (qI σ 2 8 v45).bind fun v48 =>
      if v42 < (l1 * v48) then
        fc11_buyers_61 N (fc11_buyers_23 N n) l0 l1 l2 l3 σ
      else
        fc11_buyers_61 N (fc11_buyers_23 N n) l0 l1 (l2 ||| ((1 : Int32) <<< (l3 &&& 31))) l3 σ
def fc11_buyers (N : Nat) (a0 : Nat) (x1 : Int32) (σ : Me) : Option (Int32 × Me) :=
  (qR σ 11 10 (some a0)).bind fun v1 =>
  (qI σ 2 5 v1).bind fun v4 =>
  if v4 = 0 then
    some ((-1 : Int32), σ)
  else
    (fc11_isSomeAtOnce N x1 σ).bind fun p11 =>
    if p11.1 = 0 then
      some ((-1 : Int32), p11.2)
    else
      fc11_buyers_23 N N (some a0) x1 (0 : Int32) (0 : Int32) p11.2
set_option maxRecDepth 20000 in
set_option maxHeartbeats 2000000 in
theorem pc11_buyers_61 {Ω : Om} {Γ : Ga} {N : Nat} (hG : Good Ω Γ tc11_buyers 2 0 0) {K23 : Option Nat → Int32 → Int32 → Int32 → Me → Option (Int32 × Me)} (hK23 : ∀ (l0 : Option Nat) (l1 : Int32) (l2 : Int32) (l3 : Int32) (σ : Me), Sim Ω Γ 0 0 ιI 4 23 [(0, vR l0), (1, vI l1), (2, vI l2), (3, vI l3)] [] σ 0 0 (K23 l0 l1 l2 l3 σ)) (l0 : Option Nat) (l1 : Int32) (l2 : Int32) (l3 : Int32) (σ : Me) : Sim Ω Γ 0 0 ιI 4 61 [(0, vR l0), (1, vI l1), (2, vI l2), (3, vI l3)] [] σ 0 0 (fc11_buyers_61 N K23 l0 l1 l2 l3 σ) := by
  unfold fc11_buyers_61
  refine s_iinc (v := 1) hG dc11_buyers_61 rfl (by decide) (by decide) ?_
  refine s_goto hG 23 dc11_buyers_64 (by decide) ?_
  exact s_lv (lc rfl (lc rfl (lc rfl (lc rfl ln)))) (hK23 _ _ _ _ _)
set_option maxRecDepth 20000 in
set_option maxHeartbeats 2000000 in
theorem pc11_buyers_23 {Ω : Om} {Γ : Ga} {N : Nat} (hG : Good Ω Γ tc11_buyers 2 0 0)  : ∀ (n : Nat) (l0 : Option Nat) (l1 : Int32) (l2 : Int32) (l3 : Int32) (σ : Me), Sim Ω Γ 0 0 ιI 4 23 [(0, vR l0), (1, vI l1), (2, vI l2), (3, vI l3)] [] σ 0 0 (fc11_buyers_23 N n l0 l1 l2 l3 σ) := by
  intro n
  induction n with
  | zero => intros; exact s_none
  | succ n ih =>
    intro l0 l1 l2 l3 σ
    unfold fc11_buyers_23
    refine s_iload_n hG dc11_buyers_23 rfl ?_
    refine s_aload_n hG dc11_buyers_24 rfl ?_
    refine s_getR hG kFc11_58 rfl dc11_buyers_25 (fun v25 => ?_)
    refine s_getI hG kFc11_154 rfl dc11_buyers_28 (fun v28 => ?_)
    refine s_icmp_ge hG 67 dc11_buyers_31 (by decide) ?_ ?_
    · refine s_iload_n hG dc11_buyers_67 rfl ?_
      exact s_iret hG dc11_buyers_68 rfl (Nat.le_of_ble_eq_true rfl) (Nat.le_of_ble_eq_true rfl)
    · refine s_aload_n hG dc11_buyers_34 rfl ?_
      refine s_getR hG kFc11_58 rfl dc11_buyers_35 (fun v35 => ?_)
      refine s_getR hG kFc11_198 rfl dc11_buyers_38 (fun v38 => ?_)
      refine s_iload_n hG dc11_buyers_41 rfl ?_
      refine s_iald hG dc11_buyers_42 (fun v42 => ?_)
      refine s_iload_n hG dc11_buyers_43 rfl ?_
      refine s_aload_n hG dc11_buyers_44 rfl ?_
      refine s_getR hG kFc11_58 rfl dc11_buyers_45 (fun v45 => ?_)
      refine s_getI hG kFc11_177 rfl dc11_buyers_48 (fun v48 => ?_)
      refine s_imul hG dc11_buyers_51 ?_
      refine s_icmp_lt hG 61 dc11_buyers_52 (by decide) ?_ ?_
      · exact s_lv (lc rfl (lc rfl (lc rfl (lc rfl ln)))) (pc11_buyers_61 hG ih _ _ _ _ _)
      · refine s_iload_n hG dc11_buyers_55 rfl ?_
        refine s_iconst (v := 1) hG dc11_buyers_56 (by decide) ?_
        refine s_iload_n hG dc11_buyers_57 rfl ?_
        refine s_ishl hG dc11_buyers_58 ?_
        refine s_ior hG dc11_buyers_59 ?_
        refine s_istore_n hG dc11_buyers_60 (by decide) ?_
        exact s_lv (lc rfl (lc rfl (lc rfl (lc rfl ln)))) (pc11_buyers_61 hG ih _ _ _ _ _)
set_option maxRecDepth 20000 in
set_option maxHeartbeats 2000000 in
theorem corc11_buyers {Ω : Om} (N : Nat) (a0 : Nat) (x1 : Int32) (σ : Me) : Cor Ω tc11_buyers 2 0 0 [vR (some a0), vI x1] σ ιI (fc11_buyers N a0 x1 σ) := by
  refine Cor.of (by decide +kernel) (Nat.le_of_ble_eq_true rfl) (fun Γ hG => ?_)
  unfold fc11_buyers
  show Sim Ω Γ 0 0 ιI 4 0 [(0, vR (some a0)), (1, vI x1)] [] σ 0 0 _
  refine s_aload_n hG dc11_buyers_0 rfl ?_
  refine s_getR hG kFc11_58 rfl dc11_buyers_1 (fun v1 => ?_)
  refine s_getI hG kFc11_154 rfl dc11_buyers_4 (fun v4 => ?_)
  refine s_if_eq hG 17 dc11_buyers_7 (by decide) ?_ ?_
  · refine s_iconst (v := -1) hG dc11_buyers_17 (by decide) ?_
    exact s_iret hG dc11_buyers_18 rfl (Nat.le_of_ble_eq_true rfl) (Nat.le_of_ble_eq_true rfl)
  · refine s_iload_n hG dc11_buyers_10 rfl ?_
    refine s_callSi hG kMc11_244 (corc11_isSomeAtOnce N _ _) rfl (by first | decide | omega) dc11_buyers_11 rfl rfl (Nat.le_of_ble_eq_true rfl) ⟨Nat.le_of_ble_eq_true rfl, Nat.le_of_ble_eq_true rfl⟩ (fun p11 => ?_)
    refine s_if_ne hG 19 dc11_buyers_14 (by decide) ?_ ?_
    · refine s_iconst (v := 0) hG dc11_buyers_19 (by decide) ?_
      refine s_istore_n hG dc11_buyers_20 (by decide) ?_
      refine s_iconst (v := 0) hG dc11_buyers_21 (by decide) ?_
      refine s_istore_n hG dc11_buyers_22 (by decide) ?_
      exact s_lv (lc rfl (lc rfl (lc rfl (lc rfl ln)))) (pc11_buyers_23 hG _ _ _ _ _ _)
    · refine s_iconst (v := -1) hG dc11_buyers_17 (by decide) ?_
      exact s_iret hG dc11_buyers_18 rfl (Nat.le_of_ble_eq_true rfl) (Nat.le_of_ble_eq_true rfl)
def fc11_law_39 (N : Nat) (s0 : Option Nat) (s1 : Option Nat) (σ : Me) : Option (Int32 × Me) :=
  (pR σ 9 0 s0 s1).bind fun σ39 =>
  retZ (1 : Int32) σ39
def fc11_law (N : Nat) (a0 : Nat) (x1 : Int32) (σ : Me) : Option (Int32 × Me) :=
  if x1 < (-1 : Int32) then
    retZ (0 : Int32) σ
  else
    (qI σ 11 6 (some a0)).bind fun v7 =>
    if x1 < v7 then
      (pI σ 11 8 (some a0) x1).bind fun σ17 =>
      (qR σ17 11 12 (some a0)).bind fun v21 =>
      if x1 = (-1 : Int32) then
        fc11_law_39 N v21 none σ17
      else
        (qR σ17 11 4 (some a0)).bind fun v34 =>
        (ldR σ17 "RainOwed$Law" v34 x1).bind fun v38 =>
        fc11_law_39 N v21 v38 σ17
    else
      retZ (0 : Int32) σ
set_option maxRecDepth 20000 in
set_option maxHeartbeats 2000000 in
theorem pc11_law_39 {Ω : Om} {Γ : Ga} {N : Nat} (hG : Good Ω Γ tc11_law 1 0 0) (s0 : Option Nat) (s1 : Option Nat) (σ : Me) : Sim Ω Γ 0 0 ιI 2 39 [] [vR s1, vR s0] σ 0 0 (fc11_law_39 N s0 s1 σ) := by
  unfold fc11_law_39
  refine s_putR (fin := false) hG kFc11_247 rfl (fun h => by cases h) rfl (fun v => by cases v <;> rfl) (fun v => by cases v <;> rfl) dc11_law_39 (fun σ39 => ?_)
  refine s_iconst (v := 1) hG dc11_law_42 (by decide) ?_
  exact s_zret hG dc11_law_43 rfl (Nat.le_of_ble_eq_true rfl) (Nat.le_of_ble_eq_true rfl)
set_option maxRecDepth 20000 in
set_option maxHeartbeats 2000000 in
theorem corc11_law {Ω : Om} (N : Nat) (a0 : Nat) (x1 : Int32) (σ : Me) : Cor Ω tc11_law 1 0 0 [vR (some a0), vI x1] σ ιI (fc11_law N a0 x1 σ) := by
  refine Cor.of (by decide +kernel) (Nat.le_of_ble_eq_true rfl) (fun Γ hG => ?_)
  unfold fc11_law
  show Sim Ω Γ 0 0 ιI 2 0 [(0, vR (some a0)), (1, vI x1)] [] σ 0 0 _
  refine s_iload_n hG dc11_law_0 rfl ?_
  refine s_iconst (v := -1) hG dc11_law_1 (by decide) ?_
  refine s_icmp_lt hG 13 dc11_law_2 (by decide) ?_ ?_
  · refine s_iconst (v := 0) hG dc11_law_13 (by decide) ?_
    exact s_zret hG dc11_law_14 rfl (Nat.le_of_ble_eq_true rfl) (Nat.le_of_ble_eq_true rfl)
  · refine s_iload_n hG dc11_law_5 rfl ?_
    refine s_aload_n hG dc11_law_6 rfl ?_
    refine s_getI hG kFc11_157 rfl dc11_law_7 (fun v7 => ?_)
    refine s_icmp_lt hG 15 dc11_law_10 (by decide) ?_ ?_
    · refine s_aload_n hG dc11_law_15 rfl ?_
      refine s_iload_n hG dc11_law_16 rfl ?_
      refine s_putI (fin := false) hG kFc11_51 rfl (fun h => by cases h) rfl (fun _ => rfl) (fun _ => rfl) dc11_law_17 (fun σ17 => ?_)
      refine s_aload_n hG dc11_law_20 rfl ?_
      refine s_getR hG kFc11_68 rfl dc11_law_21 (fun v21 => ?_)
      refine s_iload_n hG dc11_law_24 rfl ?_
      refine s_iconst (v := -1) hG dc11_law_25 (by decide) ?_
      refine s_icmp_ne hG 33 dc11_law_26 (by decide) ?_ ?_
      · refine s_aload_n hG dc11_law_33 rfl ?_
        refine s_getR hG kFc11_41 rfl dc11_law_34 (fun v34 => ?_)
        refine s_iload_n hG dc11_law_37 rfl ?_
        refine s_aald hG 4 rfl dc11_law_38 (fun v38 => ?_)
        exact s_lv ln (pc11_law_39 hG _ _ _)
      · refine s_null hG dc11_law_29 ?_
        refine s_goto hG 39 dc11_law_30 (by decide) ?_
        exact s_lv ln (pc11_law_39 hG _ _ _)
    · refine s_iconst (v := 0) hG dc11_law_13 (by decide) ?_
      exact s_zret hG dc11_law_14 rfl (Nat.le_of_ble_eq_true rfl) (Nat.le_of_ble_eq_true rfl)
def fc11_heresy (N : Nat) (a0 : Nat) (x1 : Int32) (σ : Me) : Option (Int32 × Me) :=
  if x1 < 0 then
    retZ (0 : Int32) σ
  else
    if (9 : Int32) < x1 then
      retZ (0 : Int32) σ
    else
      (qI σ 11 9 (some a0)).bind fun v12 =>
      if x1 = v12 then
        retZ (0 : Int32) σ
      else
        (pI σ 11 9 (some a0) x1).bind fun σ22 =>
        retZ (1 : Int32) σ22
set_option maxRecDepth 20000 in
set_option maxHeartbeats 2000000 in
theorem corc11_heresy {Ω : Om} (N : Nat) (a0 : Nat) (x1 : Int32) (σ : Me) : Cor Ω tc11_heresy 1 0 0 [vR (some a0), vI x1] σ ιI (fc11_heresy N a0 x1 σ) := by
  refine Cor.of (by decide +kernel) (Nat.le_of_ble_eq_true rfl) (fun Γ hG => ?_)
  unfold fc11_heresy
  show Sim Ω Γ 0 0 ιI 2 0 [(0, vR (some a0)), (1, vI x1)] [] σ 0 0 _
  refine s_iload_n hG dc11_heresy_0 rfl ?_
  refine s_if_lt hG 18 dc11_heresy_1 (by decide) ?_ ?_
  · refine s_iconst (v := 0) hG dc11_heresy_18 (by decide) ?_
    exact s_zret hG dc11_heresy_19 rfl (Nat.le_of_ble_eq_true rfl) (Nat.le_of_ble_eq_true rfl)
  · refine s_iload_n hG dc11_heresy_4 rfl ?_
    refine s_bipush (v := 9) hG dc11_heresy_5 (by decide) ?_
    refine s_icmp_gt hG 18 dc11_heresy_7 (by decide) ?_ ?_
    · refine s_iconst (v := 0) hG dc11_heresy_18 (by decide) ?_
      exact s_zret hG dc11_heresy_19 rfl (Nat.le_of_ble_eq_true rfl) (Nat.le_of_ble_eq_true rfl)
    · refine s_iload_n hG dc11_heresy_10 rfl ?_
      refine s_aload_n hG dc11_heresy_11 rfl ?_
      refine s_getI hG kFc11_208 rfl dc11_heresy_12 (fun v12 => ?_)
      refine s_icmp_ne hG 20 dc11_heresy_15 (by decide) ?_ ?_
      · refine s_aload_n hG dc11_heresy_20 rfl ?_
        refine s_iload_n hG dc11_heresy_21 rfl ?_
        refine s_putI (fin := false) hG kFc11_208 rfl (fun h => by cases h) rfl (fun _ => rfl) (fun _ => rfl) dc11_heresy_22 (fun σ22 => ?_)
        refine s_iconst (v := 1) hG dc11_heresy_25 (by decide) ?_
        exact s_zret hG dc11_heresy_26 rfl (Nat.le_of_ble_eq_true rfl) (Nat.le_of_ble_eq_true rfl)
      · refine s_iconst (v := 0) hG dc11_heresy_18 (by decide) ?_
        exact s_zret hG dc11_heresy_19 rfl (Nat.le_of_ble_eq_true rfl) (Nat.le_of_ble_eq_true rfl)
def fc0_tell (N : Nat) (a0 : Nat) (x1 : Int32) (x2 : Int32) (x3 : Int32) (x4 : Int32) (σ : Me) : Option (Unit × Me) :=
  (fMt_floorMod N x1 (100 : Int32) σ).bind fun p3 =>
  (qR p3.2 0 0 (some a0)).bind fun v9 =>
  (stI p3.2 v9 p3.1 x2).bind fun σ15 =>
  (qR σ15 0 1 (some a0)).bind fun v17 =>
  (stI σ15 v17 p3.1 x3).bind fun σ23 =>
  (qR σ23 0 2 (some a0)).bind fun v25 =>
  (stI σ23 v25 p3.1 x4).bind fun σ32 =>
  some ((), σ32)
set_option maxRecDepth 20000 in
set_option maxHeartbeats 2000000 in
theorem corc0_tell {Ω : Om} (N : Nat) (a0 : Nat) (x1 : Int32) (x2 : Int32) (x3 : Int32) (x4 : Int32) (σ : Me) : Cor Ω tc0_tell 2 0 0 [vR (some a0), vI x1, vI x2, vI x3, vI x4] σ ιV (fc0_tell N a0 x1 x2 x3 x4 σ) := by
  refine Cor.of (by decide +kernel) (Nat.le_of_ble_eq_true rfl) (fun Γ hG => ?_)
  unfold fc0_tell
  show Sim Ω Γ 0 0 ιV 6 0 [(0, vR (some a0)), (1, vI x1), (2, vI x2), (3, vI x3), (4, vI x4)] [] σ 0 0 _
  refine s_iload_n hG dc0_tell_0 rfl ?_
  refine s_bipush (v := 100) hG dc0_tell_1 (by decide) ?_
  refine s_callSi hG kMc0_27 (corMt_floorMod N _ _ _) rfl (by first | decide | omega) dc0_tell_3 rfl rfl (Nat.le_of_ble_eq_true rfl) ⟨Nat.le_of_ble_eq_true rfl, Nat.le_of_ble_eq_true rfl⟩ (fun p3 => ?_)
  refine s_istore hG dc0_tell_6 (by decide) ?_
  refine s_aload_n hG dc0_tell_8 rfl ?_
  refine s_getR hG kFc0_11 rfl dc0_tell_9 (fun v9 => ?_)
  refine s_iload hG dc0_tell_12 rfl ?_
  refine s_iload_n hG dc0_tell_14 rfl ?_
  refine s_iast hG dc0_tell_15 (fun σ15 => ?_)
  refine s_aload_n hG dc0_tell_16 rfl ?_
  refine s_getR hG kFc0_15 rfl dc0_tell_17 (fun v17 => ?_)
  refine s_iload hG dc0_tell_20 rfl ?_
  refine s_iload_n hG dc0_tell_22 rfl ?_
  refine s_iast hG dc0_tell_23 (fun σ23 => ?_)
  refine s_aload_n hG dc0_tell_24 rfl ?_
  refine s_getR hG kFc0_18 rfl dc0_tell_25 (fun v25 => ?_)
  refine s_iload hG dc0_tell_28 rfl ?_
  refine s_iload hG dc0_tell_30 rfl ?_
  refine s_iast hG dc0_tell_32 (fun σ32 => ?_)
  exact s_vret hG dc0_tell_33 rfl (Nat.le_of_ble_eq_true rfl) (Nat.le_of_ble_eq_true rfl)
def fc9_isBefore_35 (N : Nat)  (σ : Me) : Option (Int32 × Me) :=
  retZ (1 : Int32) σ
def fc9_isBefore (N : Nat) (a0 : Nat) (x1 : Int32) (x2 : Int32) (σ : Me) : Option (Int32 × Me) :=
  (qR σ 9 1 (some a0)).bind fun v1 =>
  (ldI σ v1 x1).bind fun v5 =>
  (qR σ 9 1 (some a0)).bind fun v7 =>
  (ldI σ v7 x2).bind fun v11 =>
  if v11 < v5 then
    fc9_isBefore_35 N  σ
  else
    (qR σ 9 1 (some a0)).bind fun v16 =>
    (ldI σ v16 x1).bind fun v20 =>
    (qR σ 9 1 (some a0)).bind fun v22 =>
    (ldI σ v22 x2).bind fun v26 =>
    if v20 = v26 then
      if x2 ≤ x1 then
        retZ (0 : Int32) σ
      else
        fc9_isBefore_35 N  σ
    else
      retZ (0 : Int32) σ
set_option maxRecDepth 20000 in
set_option maxHeartbeats 2000000 in
theorem pc9_isBefore_35 {Ω : Om} {Γ : Ga} {N : Nat} (hG : Good Ω Γ tc9_isBefore 1 0 0)  (σ : Me) : Sim Ω Γ 0 0 ιI 3 35 [] [] σ 0 0 (fc9_isBefore_35 N  σ) := by
  unfold fc9_isBefore_35
  refine s_iconst (v := 1) hG dc9_isBefore_35 (by decide) ?_
  refine s_goto hG 40 dc9_isBefore_36 (by decide) ?_
  exact s_zret hG dc9_isBefore_40 rfl (Nat.le_of_ble_eq_true rfl) (Nat.le_of_ble_eq_true rfl)
set_option maxRecDepth 20000 in
set_option maxHeartbeats 2000000 in
theorem corc9_isBefore {Ω : Om} (N : Nat) (a0 : Nat) (x1 : Int32) (x2 : Int32) (σ : Me) : Cor Ω tc9_isBefore 1 0 0 [vR (some a0), vI x1, vI x2] σ ιI (fc9_isBefore N a0 x1 x2 σ) := by
  refine Cor.of (by decide +kernel) (Nat.le_of_ble_eq_true rfl) (fun Γ hG => ?_)
  unfold fc9_isBefore
  show Sim Ω Γ 0 0 ιI 3 0 [(0, vR (some a0)), (1, vI x1), (2, vI x2)] [] σ 0 0 _
  refine s_aload_n hG dc9_isBefore_0 rfl ?_
  refine s_getR hG kFc9_9 rfl dc9_isBefore_1 (fun v1 => ?_)
  refine s_iload_n hG dc9_isBefore_4 rfl ?_
  refine s_iald hG dc9_isBefore_5 (fun v5 => ?_)
  refine s_aload_n hG dc9_isBefore_6 rfl ?_
  refine s_getR hG kFc9_9 rfl dc9_isBefore_7 (fun v7 => ?_)
  refine s_iload_n hG dc9_isBefore_10 rfl ?_
  refine s_iald hG dc9_isBefore_11 (fun v11 => ?_)
  refine s_icmp_gt hG 35 dc9_isBefore_12 (by decide) ?_ ?_
  · exact s_lv ln (pc9_isBefore_35 hG _)
  · refine s_aload_n hG dc9_isBefore_15 rfl ?_
    refine s_getR hG kFc9_9 rfl dc9_isBefore_16 (fun v16 => ?_)
    refine s_iload_n hG dc9_isBefore_19 rfl ?_
    refine s_iald hG dc9_isBefore_20 (fun v20 => ?_)
    refine s_aload_n hG dc9_isBefore_21 rfl ?_
    refine s_getR hG kFc9_9 rfl dc9_isBefore_22 (fun v22 => ?_)
    refine s_iload_n hG dc9_isBefore_25 rfl ?_
    refine s_iald hG dc9_isBefore_26 (fun v26 => ?_)
    refine s_icmp_ne hG 39 dc9_isBefore_27 (by decide) ?_ ?_
    · refine s_iconst (v := 0) hG dc9_isBefore_39 (by decide) ?_
      exact s_zret hG dc9_isBefore_40 rfl (Nat.le_of_ble_eq_true rfl) (Nat.le_of_ble_eq_true rfl)
    · refine s_iload_n hG dc9_isBefore_30 rfl ?_
      refine s_iload_n hG dc9_isBefore_31 rfl ?_
      refine s_icmp_ge hG 39 dc9_isBefore_32 (by decide) ?_ ?_
      · refine s_iconst (v := 0) hG dc9_isBefore_39 (by decide) ?_
        exact s_zret hG dc9_isBefore_40 rfl (Nat.le_of_ble_eq_true rfl) (Nat.le_of_ble_eq_true rfl)
      · exact s_lv ln (pc9_isBefore_35 hG _)
def fc9_fallOn_34 (N : Nat) (K5 : Option Nat → Int32 → Int32 → Int32 → Me → Option (Int32 × Me)) (l0 : Option Nat) (l1 : Int32) (l3 : Int32) (l4 : Int32) (σ : Me) : Option (Int32 × Me) :=
  K5 l0 l1 l3 (l4 + (1 : Int32)) σ
def fc9_fallOn_5 (N : Nat) : Nat → Option Nat → Int32 → Int32 → Int32 → Me → Option (Int32 × Me)
  | 0, _, _, _, _, _ => none
  | n + 1, l0, l1, l3, l4, σ =>
    (qI σ 9 6 l0).bind fun v8 =>
    if v8 ≤ l4 then
      if 0 ≤ l3 then
        (qR σ 9 2 l0).bind fun v50 =>
        (ldI σ v50 l1).bind fun v54 =>
        (fMt_min N l3 v54 σ).bind fun p55 =>
        some (p55.1, p55.2)
      else
        some ((0 : Int32), σ)
    else
      (dr σ l0 (.inl 9)).bind fun a =>
      (fc9_isBefore N a l4 l1 σ).bind fun p18 =>
      if p18.1 = 0 then
        fc9_fallOn_34 N (fc9_fallOn_5 N n) l0 l1 l3 l4 p18.2
      else
        (qR p18.2 9 2 l0).bind fun v26 =>
        (ldI p18.2 v26 l4).bind fun v31 =>
        fc9_fallOn_34 N (fc9_fallOn_5 N n) l0 l1 (l3 - v31) l4 p18.2
def fc9_fallOn (N : Nat) (a0 : Nat) (x1 : Int32) (x2 : Int32) (σ : Me) : Option (Int32 × Me) :=
  fc9_fallOn_5 N N (some a0) x1 x2 (0 : Int32) σ
set_option maxRecDepth 20000 in
set_option maxHeartbeats 2000000 in
theorem pc9_fallOn_34 {Ω : Om} {Γ : Ga} {N : Nat} (hG : Good Ω Γ tc9_fallOn 2 0 0) {K5 : Option Nat → Int32 → Int32 → Int32 → Me → Option (Int32 × Me)} (hK5 : ∀ (l0 : Option Nat) (l1 : Int32) (l3 : Int32) (l4 : Int32) (σ : Me), Sim Ω Γ 0 0 ιI 5 5 [(0, vR l0), (1, vI l1), (3, vI l3), (4, vI l4)] [] σ 0 0 (K5 l0 l1 l3 l4 σ)) (l0 : Option Nat) (l1 : Int32) (l3 : Int32) (l4 : Int32) (σ : Me) : Sim Ω Γ 0 0 ιI 5 34 [(0, vR l0), (1, vI l1), (3, vI l3), (4, vI l4)] [] σ 0 0 (fc9_fallOn_34 N K5 l0 l1 l3 l4 σ) := by
  unfold fc9_fallOn_34
  refine s_iinc (v := 1) hG dc9_fallOn_34 rfl (by decide) (by decide) ?_
  refine s_goto hG 5 dc9_fallOn_37 (by decide) ?_
  exact s_lv (lc rfl (lc rfl (lc rfl (lc rfl ln)))) (hK5 _ _ _ _ _)
set_option maxRecDepth 20000 in
set_option maxHeartbeats 2000000 in
theorem pc9_fallOn_5 {Ω : Om} {Γ : Ga} {N : Nat} (hG : Good Ω Γ tc9_fallOn 2 0 0)  : ∀ (n : Nat) (l0 : Option Nat) (l1 : Int32) (l3 : Int32) (l4 : Int32) (σ : Me), Sim Ω Γ 0 0 ιI 5 5 [(0, vR l0), (1, vI l1), (3, vI l3), (4, vI l4)] [] σ 0 0 (fc9_fallOn_5 N n l0 l1 l3 l4 σ) := by
  intro n
  induction n with
  | zero => intros; exact s_none
  | succ n ih =>
    intro l0 l1 l3 l4 σ
    unfold fc9_fallOn_5
    refine s_iload hG dc9_fallOn_5 rfl ?_
    refine s_aload_n hG dc9_fallOn_7 rfl ?_
    refine s_getI hG kFc9_38 rfl dc9_fallOn_8 (fun v8 => ?_)
    refine s_icmp_ge hG 40 dc9_fallOn_11 (by decide) ?_ ?_
    · refine s_iload_n hG dc9_fallOn_40 rfl ?_
      refine s_if_ge hG 48 dc9_fallOn_41 (by decide) ?_ ?_
      · refine s_iload_n hG dc9_fallOn_48 rfl ?_
        refine s_aload_n hG dc9_fallOn_49 rfl ?_
        refine s_getR hG kFc9_15 rfl dc9_fallOn_50 (fun v50 => ?_)
        refine s_iload_n hG dc9_fallOn_53 rfl ?_
        refine s_iald hG dc9_fallOn_54 (fun v54 => ?_)
        refine s_callSi hG kMc9_98 (corMt_min N _ _ _) rfl (by first | decide | omega) dc9_fallOn_55 rfl rfl (Nat.le_of_ble_eq_true rfl) ⟨Nat.le_of_ble_eq_true rfl, Nat.le_of_ble_eq_true rfl⟩ (fun p55 => ?_)
        exact s_iret hG dc9_fallOn_58 rfl (Nat.le_of_ble_eq_true rfl) (Nat.le_of_ble_eq_true rfl)
      · refine s_iconst (v := 0) hG dc9_fallOn_44 (by decide) ?_
        refine s_goto hG 58 dc9_fallOn_45 (by decide) ?_
        exact s_iret hG dc9_fallOn_58 rfl (Nat.le_of_ble_eq_true rfl) (Nat.le_of_ble_eq_true rfl)
    · refine s_aload_n hG dc9_fallOn_14 rfl ?_
      refine s_iload hG dc9_fallOn_15 rfl ?_
      refine s_iload_n hG dc9_fallOn_17 rfl ?_
      refine s_callVi hG kMc9_94 (fun a => corc9_isBefore N a _ _ _) ⟨by decide, rfl⟩ rfl (by first | decide | omega) dc9_fallOn_18 rfl rfl (Nat.le_of_ble_eq_true rfl) ⟨Nat.le_of_ble_eq_true rfl, Nat.le_of_ble_eq_true rfl⟩ (fun p18 => ?_)
      refine s_if_eq hG 34 dc9_fallOn_21 (by decide) ?_ ?_
      · exact s_lv (lc rfl (lc rfl (lc rfl (lc rfl ln)))) (pc9_fallOn_34 hG ih _ _ _ _ _)
      · refine s_iload_n hG dc9_fallOn_24 rfl ?_
        refine s_aload_n hG dc9_fallOn_25 rfl ?_
        refine s_getR hG kFc9_15 rfl dc9_fallOn_26 (fun v26 => ?_)
        refine s_iload hG dc9_fallOn_29 rfl ?_
        refine s_iald hG dc9_fallOn_31 (fun v31 => ?_)
        refine s_isub hG dc9_fallOn_32 ?_
        refine s_istore_n hG dc9_fallOn_33 (by decide) ?_
        exact s_lv (lc rfl (lc rfl (lc rfl (lc rfl ln)))) (pc9_fallOn_34 hG ih _ _ _ _ _)
set_option maxRecDepth 20000 in
set_option maxHeartbeats 2000000 in
theorem corc9_fallOn {Ω : Om} (N : Nat) (a0 : Nat) (x1 : Int32) (x2 : Int32) (σ : Me) : Cor Ω tc9_fallOn 2 0 0 [vR (some a0), vI x1, vI x2] σ ιI (fc9_fallOn N a0 x1 x2 σ) := by
  refine Cor.of (by decide +kernel) (Nat.le_of_ble_eq_true rfl) (fun Γ hG => ?_)
  unfold fc9_fallOn
  show Sim Ω Γ 0 0 ιI 5 0 [(0, vR (some a0)), (1, vI x1), (2, vI x2)] [] σ 0 0 _
  refine s_iload_n hG dc9_fallOn_0 rfl ?_
  refine s_istore_n hG dc9_fallOn_1 (by decide) ?_
  refine s_iconst (v := 0) hG dc9_fallOn_2 (by decide) ?_
  refine s_istore hG dc9_fallOn_3 (by decide) ?_
  exact s_lv (lc rfl (lc rfl (lc rfl (lc rfl ln)))) (pc9_fallOn_5 hG _ _ _ _ _ _)
def fc9_wet (N : Nat) (a0 : Nat) (x1 : Option Nat) (x2 : Int32) (σ : Me) : Option (Int32 × Me) :=
  (qR σ 2 2 x1).bind fun v3 =>
  (ldI σ v3 x2).bind fun v7 =>
  (qR σ 9 3 (some a0)).bind fun v9 =>
  (ldI σ v9 x2).bind fun v13 =>
  (fMt_min N (30 : Int32) (v7 + v13) σ).bind fun p15 =>
  some (p15.1, p15.2)
set_option maxRecDepth 20000 in
set_option maxHeartbeats 2000000 in
theorem corc9_wet {Ω : Om} (N : Nat) (a0 : Nat) (x1 : Option Nat) (x2 : Int32) (σ : Me) : Cor Ω tc9_wet 2 0 0 [vR (some a0), vR x1, vI x2] σ ιI (fc9_wet N a0 x1 x2 σ) := by
  refine Cor.of (by decide +kernel) (Nat.le_of_ble_eq_true rfl) (fun Γ hG => ?_)
  unfold fc9_wet
  show Sim Ω Γ 0 0 ιI 3 0 [(0, vR (some a0)), (1, vR x1), (2, vI x2)] [] σ 0 0 _
  refine s_bipush (v := 30) hG dc9_wet_0 (by decide) ?_
  refine s_aload_n hG dc9_wet_2 rfl ?_
  refine s_getR hG kFc9_78 rfl dc9_wet_3 (fun v3 => ?_)
  refine s_iload_n hG dc9_wet_6 rfl ?_
  refine s_iald hG dc9_wet_7 (fun v7 => ?_)
  refine s_aload_n hG dc9_wet_8 rfl ?_
  refine s_getR hG kFc9_18 rfl dc9_wet_9 (fun v9 => ?_)
  refine s_iload_n hG dc9_wet_12 rfl ?_
  refine s_iald hG dc9_wet_13 (fun v13 => ?_)
  refine s_iadd hG dc9_wet_14 ?_
  refine s_callSi hG kMc9_98 (corMt_min N _ _ _) rfl (by first | decide | omega) dc9_wet_15 rfl rfl (Nat.le_of_ble_eq_true rfl) ⟨Nat.le_of_ble_eq_true rfl, Nat.le_of_ble_eq_true rfl⟩ (fun p15 => ?_)
  exact s_iret hG dc9_wet_18 rfl (Nat.le_of_ble_eq_true rfl) (Nat.le_of_ble_eq_true rfl)
def fc9_usedUp (N : Nat) (a0 : Nat) (x1 : Option Nat) (x2 : Int32) (σ : Me) : Option (Int32 × Me) :=
  (qR σ 2 1 x1).bind fun v1 =>
  (ldI σ v1 x2).bind fun v5 =>
  (dr σ (some a0) (.inl 9)).bind fun a =>
  (fc9_wet N a x1 x2 σ).bind fun p9 =>
  (fMt_min N v5 p9.1 p9.2).bind fun p12 =>
  some (p12.1, p12.2)
set_option maxRecDepth 20000 in
set_option maxHeartbeats 2000000 in
theorem corc9_usedUp {Ω : Om} (N : Nat) (a0 : Nat) (x1 : Option Nat) (x2 : Int32) (σ : Me) : Cor Ω tc9_usedUp 3 0 0 [vR (some a0), vR x1, vI x2] σ ιI (fc9_usedUp N a0 x1 x2 σ) := by
  refine Cor.of (by decide +kernel) (Nat.le_of_ble_eq_true rfl) (fun Γ hG => ?_)
  unfold fc9_usedUp
  show Sim Ω Γ 0 0 ιI 3 0 [(0, vR (some a0)), (1, vR x1), (2, vI x2)] [] σ 0 0 _
  refine s_aload_n hG dc9_usedUp_0 rfl ?_
  refine s_getR hG kFc9_75 rfl dc9_usedUp_1 (fun v1 => ?_)
  refine s_iload_n hG dc9_usedUp_4 rfl ?_
  refine s_iald hG dc9_usedUp_5 (fun v5 => ?_)
  refine s_aload_n hG dc9_usedUp_6 rfl ?_
  refine s_aload_n hG dc9_usedUp_7 rfl ?_
  refine s_iload_n hG dc9_usedUp_8 rfl ?_
  refine s_callVi hG kMc9_103 (fun a => corc9_wet N a _ _ _) ⟨by decide, rfl⟩ rfl (by first | decide | omega) dc9_usedUp_9 rfl rfl (Nat.le_of_ble_eq_true rfl) ⟨Nat.le_of_ble_eq_true rfl, Nat.le_of_ble_eq_true rfl⟩ (fun p9 => ?_)
  refine s_callSi hG kMc9_98 (corMt_min N _ _ _) rfl (by first | decide | omega) dc9_usedUp_12 rfl rfl (Nat.le_of_ble_eq_true rfl) ⟨Nat.le_of_ble_eq_true rfl, Nat.le_of_ble_eq_true rfl⟩ (fun p12 => ?_)
  exact s_iret hG dc9_usedUp_15 rfl (Nat.le_of_ble_eq_true rfl) (Nat.le_of_ble_eq_true rfl)
