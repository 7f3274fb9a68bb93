def fc11_perform_89 (N : Nat) (K24 : Option Nat → Option Nat → Int32 → Me → Option (Int32 × Me)) (l0 : Option Nat) (l2 : Option Nat) (l3 : Int32) (σ : Me) : Option (Int32 × Me) :=
  K24 l0 l2 (l3 + (1 : Int32)) σ
def fc11_perform_24 (N : Nat) : Nat → Option Nat → Option Nat → Int32 → Me → Option (Int32 × Me)
  | 0, _, _, _, _ => none
  | n + 1, l0, l2, l3, σ =>
    (qI σ 7 3 l2).bind fun v26 =>
    if v26 ≤ l3 then
      (qI σ 7 3 l2).bind fun v96 =>
      some (v96, σ)
    else
      (qR σ 11 10 l0).bind fun v33 =>
      (fc11_isStep N v33 l2 l3 σ).bind fun p38 =>
      if p38.1 = 0 then
        some (l3, p38.2)
      else
        (qR p38.2 11 14 l0).bind fun v47 =>
        (qR p38.2 11 10 l0).bind fun v51 =>
        (dr p38.2 v47 (.inl 5)).bind fun a =>
        (fc5_keep N a v51 p38.2).bind fun p54 =>
        (qR p54.2 7 0 l2).bind fun v58 =>
        (ldI p54.2 v58 l3).bind fun v62 =>
        if v62 = 0 then
          (qR p54.2 7 1 l2).bind fun v68 =>
          (ldI p54.2 v68 l3).bind fun v72 =>
          (dr p54.2 l0 (.inl 11)).bind fun a =>
          (fc11_goBy N a v72 p54.2).bind fun p73 =>
          fc11_perform_89 N (fc11_perform_24 N n) l0 l2 l3 p73.2
        else
          (qR p54.2 11 10 l0).bind fun v81 =>
          (fc11_take N v81 l2 l3 p54.2).bind fun p86 =>
          fc11_perform_89 N (fc11_perform_24 N n) l0 l2 l3 p86.2
def fc11_perform (N : Nat) (a0 : Nat) (x1 : Int32) (σ : Me) : Option (Int32 × Me) :=
  (dr σ (some a0) (.inl 11)).bind fun a =>
  (fc11_planAt N a x1 σ).bind fun p2 =>
  if p2.1 = none then
    some ((-1 : Int32), p2.2)
  else
    (qR p2.2 11 10 (some a0)).bind fun v11 =>
    (qI p2.2 2 5 v11).bind fun v14 =>
    if v14 = 0 then
      some ((-1 : Int32), p2.2)
    else
      fc11_perform_24 N N (some a0) p2.1 (0 : Int32) p2.2
set_option maxRecDepth 20000 in
set_option maxHeartbeats 2000000 in
theorem pc11_perform_89 {Ω : Om} {Γ : Ga} {N : Nat} (hG : Good Ω Γ tc11_perform 7 0 0) {K24 : Option Nat → Option Nat → Int32 → Me → Option (Int32 × Me)} (hK24 : ∀ (l0 : Option Nat) (l2 : Option Nat) (l3 : Int32) (σ : Me), Sim Ω Γ 0 0 ιI 4 24 [(0, vR l0), (2, vR l2), (3, vI l3)] [] σ 0 0 (K24 l0 l2 l3 σ)) (l0 : Option Nat) (l2 : Option Nat) (l3 : Int32) (σ : Me) : Sim Ω Γ 0 0 ιI 4 89 [(0, vR l0), (2, vR l2), (3, vI l3)] [] σ 0 0 (fc11_perform_89 N K24 l0 l2 l3 σ) := by
  unfold fc11_perform_89
  refine s_iinc (v := 1) hG dc11_perform_89 rfl (by decide) (by decide) ?_
  refine s_goto hG 24 dc11_perform_92 (by decide) ?_
  exact s_lv (lc rfl (lc rfl (lc rfl ln))) (hK24 _ _ _ _)
set_option maxRecDepth 20000 in
set_option maxHeartbeats 2000000 in
theorem pc11_perform_24 {Ω : Om} {Γ : Ga} {N : Nat} (hG : Good Ω Γ tc11_perform 7 0 0)  : ∀ (n : Nat) (l0 : Option Nat) (l2 : Option Nat) (l3 : Int32) (σ : Me), Sim Ω Γ 0 0 ιI 4 24 [(0, vR l0), (2, vR l2), (3, vI l3)] [] σ 0 0 (fc11_perform_24 N n l0 l2 l3 σ) := by
  intro n
  induction n with
  | zero => intros; exact s_none
  | succ n ih =>
    intro l0 l2 l3 σ
    unfold fc11_perform_24
    refine s_iload_n hG dc11_perform_24 rfl ?_
    refine s_aload_n hG dc11_perform_25 rfl ?_
    refine s_getI hG kFc11_223 rfl dc11_perform_26 (fun v26 => ?_)
    refine s_icmp_ge hG 95 dc11_perform_29 (by decide) ?_ ?_
    · refine s_aload_n hG dc11_perform_95 rfl ?_
      refine s_getI hG kFc11_223 rfl dc11_perform_96 (fun v96 => ?_)
      exact s_iret hG dc11_perform_99 rfl (Nat.le_of_ble_eq_true rfl) (Nat.le_of_ble_eq_true rfl)
    · refine s_aload_n hG dc11_perform_32 rfl ?_
      refine s_getR hG kFc11_58 rfl dc11_perform_33 (fun v33 => ?_)
      refine s_aload_n hG dc11_perform_36 rfl ?_
      refine s_iload_n hG dc11_perform_37 rfl ?_
      refine s_callSi hG kMc11_332 (corc11_isStep N _ _ _ _) rfl (by first | decide | omega) dc11_perform_38 rfl rfl (Nat.le_of_ble_eq_true rfl) ⟨Nat.le_of_ble_eq_true rfl, Nat.le_of_ble_eq_true rfl⟩ (fun p38 => ?_)
      refine s_if_ne hG 46 dc11_perform_41 (by decide) ?_ ?_
      · refine s_aload_n hG dc11_perform_46 rfl ?_
        refine s_getR hG kFc11_82 rfl dc11_perform_47 (fun v47 => ?_)
        refine s_aload_n hG dc11_perform_50 rfl ?_
        refine s_getR hG kFc11_58 rfl dc11_perform_51 (fun v51 => ?_)
        refine s_callVv hG kMc11_254 (fun a => corc5_keep N a _ _) ⟨by decide, rfl⟩ rfl (by first | decide | omega) dc11_perform_54 rfl rfl (Nat.le_of_ble_eq_true rfl) ⟨Nat.le_of_ble_eq_true rfl, Nat.le_of_ble_eq_true rfl⟩ (fun p54 => ?_)
        refine s_aload_n hG dc11_perform_57 rfl ?_
        refine s_getR hG kFc11_226 rfl dc11_perform_58 (fun v58 => ?_)
        refine s_iload_n hG dc11_perform_61 rfl ?_
        refine s_iald hG dc11_perform_62 (fun v62 => ?_)
        refine s_if_ne hG 80 dc11_perform_63 (by decide) ?_ ?_
        · refine s_aload_n hG dc11_perform_80 rfl ?_
          refine s_getR hG kFc11_58 rfl dc11_perform_81 (fun v81 => ?_)
          refine s_aload_n hG dc11_perform_84 rfl ?_
          refine s_iload_n hG dc11_perform_85 rfl ?_
          refine s_callSv hG kMc11_336 (corc11_take N _ _ _ _) rfl (by first | decide | omega) dc11_perform_86 rfl rfl (Nat.le_of_ble_eq_true rfl) ⟨Nat.le_of_ble_eq_true rfl, Nat.le_of_ble_eq_true rfl⟩ (fun p86 => ?_)
          exact s_lv (lc rfl (lc rfl (lc rfl ln))) (pc11_perform_89 hG ih _ _ _ _)
        · refine s_aload_n hG dc11_perform_66 rfl ?_
          refine s_aload_n hG dc11_perform_67 rfl ?_
          refine s_getR hG kFc11_229 rfl dc11_perform_68 (fun v68 => ?_)
          refine s_iload_n hG dc11_perform_71 rfl ?_
          refine s_iald hG dc11_perform_72 (fun v72 => ?_)
          refine s_callVi hG kMc11_257 (fun a => corc11_goBy N a _ _) ⟨by decide, rfl⟩ rfl (by first | decide | omega) dc11_perform_73 rfl rfl (Nat.le_of_ble_eq_true rfl) ⟨Nat.le_of_ble_eq_true rfl, Nat.le_of_ble_eq_true rfl⟩ (fun p73 => ?_)
          refine s_pop hG dc11_perform_76 rfl ?_
          refine s_goto hG 89 dc11_perform_77 (by decide) ?_
          exact s_lv (lc rfl (lc rfl (lc rfl ln))) (pc11_perform_89 hG ih _ _ _ _)
      · refine s_iload_n hG dc11_perform_44 rfl ?_
        exact s_iret hG dc11_perform_45 rfl (Nat.le_of_ble_eq_true rfl) (Nat.le_of_ble_eq_true rfl)
set_option maxRecDepth 20000 in
set_option maxHeartbeats 2000000 in
theorem corc11_perform {Ω : Om} (N : Nat) (a0 : Nat) (x1 : Int32) (σ : Me) : Cor Ω tc11_perform 7 0 0 [vR (some a0), vI x1] σ ιI (fc11_perform N a0 x1 σ) := by
  refine Cor.of (by decide +kernel) (Nat.le_of_ble_eq_true rfl) (fun Γ hG => ?_)
  unfold fc11_perform
  show Sim Ω Γ 0 0 ιI 4 0 [(0, vR (some a0)), (1, vI x1)] [] σ 0 0 _
  refine s_aload_n hG dc11_perform_0 rfl ?_
  refine s_iload_n hG dc11_perform_1 rfl ?_
  refine s_callVr hG kMc11_219 (fun a => corc11_planAt N a _ _) ⟨by decide, rfl⟩ rfl (by first | decide | omega) dc11_perform_2 rfl rfl (Nat.le_of_ble_eq_true rfl) ⟨Nat.le_of_ble_eq_true rfl, Nat.le_of_ble_eq_true rfl⟩ (fun p2 => ?_)
  refine s_astore_n hG dc11_perform_5 (by decide) ?_
  refine s_aload_n hG dc11_perform_6 rfl ?_
  refine s_ifnull hG 20 dc11_perform_7 (by decide) ?_ ?_
  · refine s_iconst (v := -1) hG dc11_perform_20 (by decide) ?_
    exact s_iret hG dc11_perform_21 rfl (Nat.le_of_ble_eq_true rfl) (Nat.le_of_ble_eq_true rfl)
  · refine s_aload_n hG dc11_perform_10 rfl ?_
    refine s_getR hG kFc11_58 rfl dc11_perform_11 (fun v11 => ?_)
    refine s_getI hG kFc11_154 rfl dc11_perform_14 (fun v14 => ?_)
    refine s_if_ne hG 22 dc11_perform_17 (by decide) ?_ ?_
    · refine s_iconst (v := 0) hG dc11_perform_22 (by decide) ?_
      refine s_istore_n hG dc11_perform_23 (by decide) ?_
      exact s_lv (lc rfl (lc rfl (lc rfl ln))) (pc11_perform_24 hG _ _ _ _ _)
    · refine s_iconst (v := -1) hG dc11_perform_20 (by decide) ?_
      exact s_iret hG dc11_perform_21 rfl (Nat.le_of_ble_eq_true rfl) (Nat.le_of_ble_eq_true rfl)
def fc11_falls (N : Nat) (a0 : Nat) (x1 : Int32) (x2 : Int32) (σ : Me) : Option (Int32 × Me) :=
  (qR σ 11 10 (some a0)).bind fun v1 =>
  (dr σ v1 (.inl 2)).bind fun a =>
  (fc2_has N a x1 σ).bind fun p5 =>
  if p5.1 = 0 then
    some ((-1 : Int32), p5.2)
  else
    (fc11_isRain N x2 p5.2).bind fun p12 =>
    if p12.1 = 0 then
      some ((-1 : Int32), p12.2)
    else
      (qR p12.2 11 12 (some a0)).bind fun v21 =>
      (qR p12.2 11 10 (some a0)).bind fun v25 =>
      (dr p12.2 v21 (.inl 9)).bind fun a =>
      (fc9_look N a v25 x2 p12.2).bind fun p29 =>
      (qR p29.2 11 12 (some a0)).bind fun v33 =>
      (qR p29.2 9 3 v33).bind fun v36 =>
      (ldI p29.2 v36 x1).bind fun v40 =>
      some (v40, p29.2)
set_option maxRecDepth 20000 in
set_option maxHeartbeats 2000000 in
theorem corc11_falls {Ω : Om} (N : Nat) (a0 : Nat) (x1 : Int32) (x2 : Int32) (σ : Me) : Cor Ω tc11_falls 6 0 0 [vR (some a0), vI x1, vI x2] σ ιI (fc11_falls N a0 x1 x2 σ) := by
  refine Cor.of (by decide +kernel) (Nat.le_of_ble_eq_true rfl) (fun Γ hG => ?_)
  unfold fc11_falls
  show Sim Ω Γ 0 0 ιI 3 0 [(0, vR (some a0)), (1, vI x1), (2, vI x2)] [] σ 0 0 _
  refine s_aload_n hG dc11_falls_0 rfl ?_
  refine s_getR hG kFc11_58 rfl dc11_falls_1 (fun v1 => ?_)
  refine s_iload_n hG dc11_falls_4 rfl ?_
  refine s_callVi hG kMc11_180 (fun a => corc2_has N a _ _) ⟨by decide, rfl⟩ rfl (by first | decide | omega) dc11_falls_5 rfl rfl (Nat.le_of_ble_eq_true rfl) ⟨Nat.le_of_ble_eq_true rfl, Nat.le_of_ble_eq_true rfl⟩ (fun p5 => ?_)
  refine s_if_eq hG 18 dc11_falls_8 (by decide) ?_ ?_
  · refine s_iconst (v := -1) hG dc11_falls_18 (by decide) ?_
    exact s_iret hG dc11_falls_19 rfl (Nat.le_of_ble_eq_true rfl) (Nat.le_of_ble_eq_true rfl)
  · refine s_iload_n hG dc11_falls_11 rfl ?_
    refine s_callSi hG kMc11_340 (corc11_isRain N _ _) rfl (by first | decide | omega) dc11_falls_12 rfl rfl (Nat.le_of_ble_eq_true rfl) ⟨Nat.le_of_ble_eq_true rfl, Nat.le_of_ble_eq_true rfl⟩ (fun p12 => ?_)
    refine s_if_ne hG 20 dc11_falls_15 (by decide) ?_ ?_
    · refine s_aload_n hG dc11_falls_20 rfl ?_
      refine s_getR hG kFc11_68 rfl dc11_falls_21 (fun v21 => ?_)
      refine s_aload_n hG dc11_falls_24 rfl ?_
      refine s_getR hG kFc11_58 rfl dc11_falls_25 (fun v25 => ?_)
      refine s_iload_n hG dc11_falls_28 rfl ?_
      refine s_callVv hG kMc11_315 (fun a => corc9_look N a _ _ _) ⟨by decide, rfl⟩ rfl (by first | decide | omega) dc11_falls_29 rfl rfl (Nat.le_of_ble_eq_true rfl) ⟨Nat.le_of_ble_eq_true rfl, Nat.le_of_ble_eq_true rfl⟩ (fun p29 => ?_)
      refine s_aload_n hG dc11_falls_32 rfl ?_
      refine s_getR hG kFc11_68 rfl dc11_falls_33 (fun v33 => ?_)
      refine s_getR hG kFc11_343 rfl dc11_falls_36 (fun v36 => ?_)
      refine s_iload_n hG dc11_falls_39 rfl ?_
      refine s_iald hG dc11_falls_40 (fun v40 => ?_)
      exact s_iret hG dc11_falls_41 rfl (Nat.le_of_ble_eq_true rfl) (Nat.le_of_ble_eq_true rfl)
    · refine s_iconst (v := -1) hG dc11_falls_18 (by decide) ?_
      exact s_iret hG dc11_falls_19 rfl (Nat.le_of_ble_eq_true rfl) (Nat.le_of_ble_eq_true rfl)
def fc11_drowns (N : Nat) (a0 : Nat) (x1 : Int32) (σ : Me) : Option (Int32 × Me) :=
  (dr σ (some a0) (.inl 11)).bind fun a =>
  (fc11_isSky N a x1 σ).bind fun p2 =>
  if p2.1 = 0 then
    some ((-1 : Int32), p2.2)
  else
    (qR p2.2 11 12 (some a0)).bind fun v11 =>
    (qR p2.2 11 10 (some a0)).bind fun v15 =>
    (dr p2.2 v11 (.inl 9)).bind fun a =>
    (fc9_look N a v15 x1 p2.2).bind fun p19 =>
    (qR p19.2 11 12 (some a0)).bind fun v23 =>
    (qI p19.2 9 8 v23).bind fun v26 =>
    some (v26, p19.2)
set_option maxRecDepth 20000 in
set_option maxHeartbeats 2000000 in
theorem corc11_drowns {Ω : Om} (N : Nat) (a0 : Nat) (x1 : Int32) (σ : Me) : Cor Ω tc11_drowns 6 0 0 [vR (some a0), vI x1] σ ιI (fc11_drowns N a0 x1 σ) := by
  refine Cor.of (by decide +kernel) (Nat.le_of_ble_eq_true rfl) (fun Γ hG => ?_)
  unfold fc11_drowns
  show Sim Ω Γ 0 0 ιI 2 0 [(0, vR (some a0)), (1, vI x1)] [] σ 0 0 _
  refine s_aload_n hG dc11_drowns_0 rfl ?_
  refine s_iload_n hG dc11_drowns_1 rfl ?_
  refine s_callVi hG kMc11_251 (fun a => corc11_isSky N a _ _) ⟨by decide, rfl⟩ rfl (by first | decide | omega) dc11_drowns_2 rfl rfl (Nat.le_of_ble_eq_true rfl) ⟨Nat.le_of_ble_eq_true rfl, Nat.le_of_ble_eq_true rfl⟩ (fun p2 => ?_)
  refine s_if_ne hG 10 dc11_drowns_5 (by decide) ?_ ?_
  · refine s_aload_n hG dc11_drowns_10 rfl ?_
    refine s_getR hG kFc11_68 rfl dc11_drowns_11 (fun v11 => ?_)
    refine s_aload_n hG dc11_drowns_14 rfl ?_
    refine s_getR hG kFc11_58 rfl dc11_drowns_15 (fun v15 => ?_)
    refine s_iload_n hG dc11_drowns_18 rfl ?_
    refine s_callVv hG kMc11_315 (fun a => corc9_look N a _ _ _) ⟨by decide, rfl⟩ rfl (by first | decide | omega) dc11_drowns_19 rfl rfl (Nat.le_of_ble_eq_true rfl) ⟨Nat.le_of_ble_eq_true rfl, Nat.le_of_ble_eq_true rfl⟩ (fun p19 => ?_)
    refine s_aload_n hG dc11_drowns_22 rfl ?_
    refine s_getR hG kFc11_68 rfl dc11_drowns_23 (fun v23 => ?_)
    refine s_getI hG kFc11_319 rfl dc11_drowns_26 (fun v26 => ?_)
    exact s_iret hG dc11_drowns_29 rfl (Nat.le_of_ble_eq_true rfl) (Nat.le_of_ble_eq_true rfl)
  · refine s_iconst (v := -1) hG dc11_drowns_8 (by decide) ?_
    exact s_iret hG dc11_drowns_9 rfl (Nat.le_of_ble_eq_true rfl) (Nat.le_of_ble_eq_true rfl)
def fc11_harvest (N : Nat) (a0 : Nat) (x1 : Int32) (σ : Me) : Option (Int32 × Me) :=
  (dr σ (some a0) (.inl 11)).bind fun a =>
  (fc11_isSky N a x1 σ).bind fun p2 =>
  if p2.1 = 0 then
    some ((-1 : Int32), p2.2)
  else
    (qR p2.2 11 12 (some a0)).bind fun v11 =>
    (qR p2.2 11 10 (some a0)).bind fun v15 =>
    (dr p2.2 v11 (.inl 9)).bind fun a =>
    (fc9_look N a v15 x1 p2.2).bind fun p19 =>
    (qR p19.2 11 12 (some a0)).bind fun v23 =>
    (qI p19.2 9 9 v23).bind fun v26 =>
    some (v26, p19.2)
set_option maxRecDepth 20000 in
set_option maxHeartbeats 2000000 in
theorem corc11_harvest {Ω : Om} (N : Nat) (a0 : Nat) (x1 : Int32) (σ : Me) : Cor Ω tc11_harvest 6 0 0 [vR (some a0), vI x1] σ ιI (fc11_harvest N a0 x1 σ) := by
  refine Cor.of (by decide +kernel) (Nat.le_of_ble_eq_true rfl) (fun Γ hG => ?_)
  unfold fc11_harvest
  show Sim Ω Γ 0 0 ιI 2 0 [(0, vR (some a0)), (1, vI x1)] [] σ 0 0 _
  refine s_aload_n hG dc11_harvest_0 rfl ?_
  refine s_iload_n hG dc11_harvest_1 rfl ?_
  refine s_callVi hG kMc11_251 (fun a => corc11_isSky N a _ _) ⟨by decide, rfl⟩ rfl (by first | decide | omega) dc11_harvest_2 rfl rfl (Nat.le_of_ble_eq_true rfl) ⟨Nat.le_of_ble_eq_true rfl, Nat.le_of_ble_eq_true rfl⟩ (fun p2 => ?_)
  refine s_if_ne hG 10 dc11_harvest_5 (by decide) ?_ ?_
  · refine s_aload_n hG dc11_harvest_10 rfl ?_
    refine s_getR hG kFc11_68 rfl dc11_harvest_11 (fun v11 => ?_)
    refine s_aload_n hG dc11_harvest_14 rfl ?_
    refine s_getR hG kFc11_58 rfl dc11_harvest_15 (fun v15 => ?_)
    refine s_iload_n hG dc11_harvest_18 rfl ?_
    refine s_callVv hG kMc11_315 (fun a => corc9_look N a _ _ _) ⟨by decide, rfl⟩ rfl (by first | decide | omega) dc11_harvest_19 rfl rfl (Nat.le_of_ble_eq_true rfl) ⟨Nat.le_of_ble_eq_true rfl, Nat.le_of_ble_eq_true rfl⟩ (fun p19 => ?_)
    refine s_aload_n hG dc11_harvest_22 rfl ?_
    refine s_getR hG kFc11_68 rfl dc11_harvest_23 (fun v23 => ?_)
    refine s_getI hG kFc11_322 rfl dc11_harvest_26 (fun v26 => ?_)
    exact s_iret hG dc11_harvest_29 rfl (Nat.le_of_ble_eq_true rfl) (Nat.le_of_ble_eq_true rfl)
  · refine s_iconst (v := -1) hG dc11_harvest_8 (by decide) ?_
    exact s_iret hG dc11_harvest_9 rfl (Nat.le_of_ble_eq_true rfl) (Nat.le_of_ble_eq_true rfl)
def fc11_safe_15 (N : Nat) : Nat → Option Nat → Int32 → Me → Option (Int32 × Me)
  | 0, _, _, _ => none
  | n + 1, l0, l1, σ =>
    if l1 < 0 then
      some ((-1 : Int32), σ)
    else
      (qR σ 11 12 l0).bind fun v20 =>
      (qR σ 11 10 l0).bind fun v24 =>
      (dr σ v20 (.inl 9)).bind fun a =>
      (fc9_look N a v24 l1 σ).bind fun p28 =>
      (qR p28.2 11 12 l0).bind fun v32 =>
      (qI p28.2 9 8 v32).bind fun v35 =>
      if v35 = 0 then
        some (l1, p28.2)
      else
        (fc11_safe_15 N n) l0 (l1 + (-1 : Int32)) p28.2
def fc11_safe (N : Nat) (a0 : Nat) (σ : Me) : Option (Int32 × Me) :=
  (qR σ 11 10 (some a0)).bind fun v1 =>
  (qI σ 2 5 v1).bind fun v4 =>
  if v4 = 0 then
    some ((-1 : Int32), σ)
  else
    fc11_safe_15 N N (some a0) (99 : Int32) σ
set_option maxRecDepth 20000 in
set_option maxHeartbeats 2000000 in
theorem pc11_safe_15 {Ω : Om} {Γ : Ga} {N : Nat} (hG : Good Ω Γ tc11_safe 6 0 0)  : ∀ (n : Nat) (l0 : Option Nat) (l1 : Int32) (σ : Me), Sim Ω Γ 0 0 ιI 2 15 [(0, vR l0), (1, vI l1)] [] σ 0 0 (fc11_safe_15 N n l0 l1 σ) := by
  intro n
  induction n with
  | zero => intros; exact s_none
  | succ n ih =>
    intro l0 l1 σ
    unfold fc11_safe_15
    refine s_iload_n hG dc11_safe_15 rfl ?_
    refine s_if_lt hG 49 dc11_safe_16 (by decide) ?_ ?_
    · refine s_iconst (v := -1) hG dc11_safe_49 (by decide) ?_
      exact s_iret hG dc11_safe_50 rfl (Nat.le_of_ble_eq_true rfl) (Nat.le_of_ble_eq_true rfl)
    · refine s_aload_n hG dc11_safe_19 rfl ?_
      refine s_getR hG kFc11_68 rfl dc11_safe_20 (fun v20 => ?_)
      refine s_aload_n hG dc11_safe_23 rfl ?_
      refine s_getR hG kFc11_58 rfl dc11_safe_24 (fun v24 => ?_)
      refine s_iload_n hG dc11_safe_27 rfl ?_
      refine s_callVv hG kMc11_315 (fun a => corc9_look N a _ _ _) ⟨by decide, rfl⟩ rfl (by first | decide | omega) dc11_safe_28 rfl rfl (Nat.le_of_ble_eq_true rfl) ⟨Nat.le_of_ble_eq_true rfl, Nat.le_of_ble_eq_true rfl⟩ (fun p28 => ?_)
      refine s_aload_n hG dc11_safe_31 rfl ?_
      refine s_getR hG kFc11_68 rfl dc11_safe_32 (fun v32 => ?_)
      refine s_getI hG kFc11_319 rfl dc11_safe_35 (fun v35 => ?_)
      refine s_if_ne hG 43 dc11_safe_38 (by decide) ?_ ?_
      · refine s_iinc (v := -1) hG dc11_safe_43 rfl (by decide) (by decide) ?_
        refine s_goto hG 15 dc11_safe_46 (by decide) ?_
        exact s_lv (lc rfl (lc rfl ln)) (ih _ _ _)
      · refine s_iload_n hG dc11_safe_41 rfl ?_
        exact s_iret hG dc11_safe_42 rfl (Nat.le_of_ble_eq_true rfl) (Nat.le_of_ble_eq_true rfl)
set_option maxRecDepth 20000 in
set_option maxHeartbeats 2000000 in
theorem corc11_safe {Ω : Om} (N : Nat) (a0 : Nat) (σ : Me) : Cor Ω tc11_safe 6 0 0 [vR (some a0)] σ ιI (fc11_safe N a0 σ) := by
  refine Cor.of (by decide +kernel) (Nat.le_of_ble_eq_true rfl) (fun Γ hG => ?_)
  unfold fc11_safe
  show Sim Ω Γ 0 0 ιI 2 0 [(0, vR (some a0))] [] σ 0 0 _
  refine s_aload_n hG dc11_safe_0 rfl ?_
  refine s_getR hG kFc11_58 rfl dc11_safe_1 (fun v1 => ?_)
  refine s_getI hG kFc11_154 rfl dc11_safe_4 (fun v4 => ?_)
  refine s_if_ne hG 12 dc11_safe_7 (by decide) ?_ ?_
  · refine s_bipush (v := 99) hG dc11_safe_12 (by decide) ?_
    refine s_istore_n hG dc11_safe_14 (by decide) ?_
    exact s_lv (lc rfl (lc rfl ln)) (pc11_safe_15 hG _ _ _ _)
  · refine s_iconst (v := -1) hG dc11_safe_10 (by decide) ?_
    exact s_iret hG dc11_safe_11 rfl (Nat.le_of_ble_eq_true rfl) (Nat.le_of_ble_eq_true rfl)
def fc11_odds_34 (N : Nat) : Nat → Option Nat → Int32 → Int32 → Int32 → Int32 → Int32 → Me → Option (Int32 × Me)
  | 0, _, _, _, _, _, _, _ => none
  | n + 1, l0, l1, l2, l3, l4, l5, σ =>
    if l3 < l5 then
      (dvI (l4 * (1000000 : Int32)) ((l3 - l2) + (1 : Int32))).bind fun v86 =>
      some (v86, σ)
    else
      (qR σ 11 12 l0).bind fun v41 =>
      (qR σ 11 10 l0).bind fun v45 =>
      (dr σ v41 (.inl 9)).bind fun a =>
      (fc9_look N a v45 l5 σ).bind fun p50 =>
      (qR p50.2 11 12 l0).bind fun v56 =>
      (qI p50.2 9 8 v56).bind fun v59 =>
      (fc11_odds_34 N n) l0 l1 l2 l3 (l4 + ((v59 >>> (l1 &&& 31)) &&& (1 : Int32))) (l5 + (1 : Int32)) p50.2
def fc11_odds (N : Nat) (a0 : Nat) (x1 : Int32) (x2 : Int32) (x3 : Int32) (σ : Me) : Option (Int32 × Me) :=
  (qR σ 11 10 (some a0)).bind fun v1 =>
  (dr σ v1 (.inl 2)).bind fun a =>
  (fc2_has N a x1 σ).bind fun p5 =>
  if p5.1 = 0 then
    some ((-1 : Int32), p5.2)
  else
    if x2 < 0 then
      some ((-1 : Int32), p5.2)
    else
      if x3 < x2 then
        some ((-1 : Int32), p5.2)
      else
        if x3 ≤ (99 : Int32) then
          fc11_odds_34 N N (some a0) x1 x2 x3 (0 : Int32) x2 p5.2
        else
          some ((-1 : Int32), p5.2)
set_option maxRecDepth 20000 in
set_option maxHeartbeats 2000000 in
theorem pc11_odds_34 {Ω : Om} {Γ : Ga} {N : Nat} (hG : Good Ω Γ tc11_odds 6 0 0)  : ∀ (n : Nat) (l0 : Option Nat) (l1 : Int32) (l2 : Int32) (l3 : Int32) (l4 : Int32) (l5 : Int32) (σ : Me), Sim Ω Γ 0 0 ιI 6 34 [(0, vR l0), (1, vI l1), (2, vI l2), (3, vI l3), (4, vI l4), (5, vI l5)] [] σ 0 0 (fc11_odds_34 N n l0 l1 l2 l3 l4 l5 σ) := by
  intro n
  induction n with
  | zero => intros; exact s_none
  | succ n ih =>
    intro l0 l1 l2 l3 l4 l5 σ
    unfold fc11_odds_34
    refine s_iload hG dc11_odds_34 rfl ?_
    refine s_iload_n hG dc11_odds_36 rfl ?_
    refine s_icmp_gt hG 75 dc11_odds_37 (by decide) ?_ ?_
    · refine s_iload hG dc11_odds_75 rfl ?_
      refine s_ldcw hG dc11_odds_77 kIc11_346 ?_
      refine s_imul hG dc11_odds_80 ?_
      refine s_iload_n hG dc11_odds_81 rfl ?_
      refine s_iload_n hG dc11_odds_82 rfl ?_
      refine s_isub hG dc11_odds_83 ?_
      refine s_iconst (v := 1) hG dc11_odds_84 (by decide) ?_
      refine s_iadd hG dc11_odds_85 ?_
      refine s_idiv hG dc11_odds_86 (fun v86 => ?_)
      exact s_iret hG dc11_odds_87 rfl (Nat.le_of_ble_eq_true rfl) (Nat.le_of_ble_eq_true rfl)
    · refine s_aload_n hG dc11_odds_40 rfl ?_
      refine s_getR hG kFc11_68 rfl dc11_odds_41 (fun v41 => ?_)
      refine s_aload_n hG dc11_odds_44 rfl ?_
      refine s_getR hG kFc11_58 rfl dc11_odds_45 (fun v45 => ?_)
      refine s_iload hG dc11_odds_48 rfl ?_
      refine s_callVv hG kMc11_315 (fun a => corc9_look N a _ _ _) ⟨by decide, rfl⟩ rfl (by first | decide | omega) dc11_odds_50 rfl rfl (Nat.le_of_ble_eq_true rfl) ⟨Nat.le_of_ble_eq_true rfl, Nat.le_of_ble_eq_true rfl⟩ (fun p50 => ?_)
      refine s_iload hG dc11_odds_53 rfl ?_
      refine s_aload_n hG dc11_odds_55 rfl ?_
      refine s_getR hG kFc11_68 rfl dc11_odds_56 (fun v56 => ?_)
      refine s_getI hG kFc11_319 rfl dc11_odds_59 (fun v59 => ?_)
      refine s_iload_n hG dc11_odds_62 rfl ?_
      refine s_ishr hG dc11_odds_63 ?_
      refine s_iconst (v := 1) hG dc11_odds_64 (by decide) ?_
      refine s_iand hG dc11_odds_65 ?_
      refine s_iadd hG dc11_odds_66 ?_
      refine s_istore hG dc11_odds_67 (by decide) ?_
      refine s_iinc (v := 1) hG dc11_odds_69 rfl (by decide) (by decide) ?_
      refine s_goto hG 34 dc11_odds_72 (by decide) ?_
      exact s_lv (lc rfl (lc rfl (lc rfl (lc rfl (lc rfl (lc rfl ln)))))) (ih _ _ _ _ _ _ _)
set_option maxRecDepth 20000 in
set_option maxHeartbeats 2000000 in
theorem corc11_odds {Ω : Om} (N : Nat) (a0 : Nat) (x1 : Int32) (x2 : Int32) (x3 : Int32) (σ : Me) : Cor Ω tc11_odds 6 0 0 [vR (some a0), vI x1, vI x2, vI x3] σ ιI (fc11_odds N a0 x1 x2 x3 σ) := by
  refine Cor.of (by decide +kernel) (Nat.le_of_ble_eq_true rfl) (fun Γ hG => ?_)
  unfold fc11_odds
  show Sim Ω Γ 0 0 ιI 6 0 [(0, vR (some a0)), (1, vI x1), (2, vI x2), (3, vI x3)] [] σ 0 0 _
  refine s_aload_n hG dc11_odds_0 rfl ?_
  refine s_getR hG kFc11_58 rfl dc11_odds_1 (fun v1 => ?_)
  refine s_iload_n hG dc11_odds_4 rfl ?_
  refine s_callVi hG kMc11_180 (fun a => corc2_has N a _ _) ⟨by decide, rfl⟩ rfl (by first | decide | omega) dc11_odds_5 rfl rfl (Nat.le_of_ble_eq_true rfl) ⟨Nat.le_of_ble_eq_true rfl, Nat.le_of_ble_eq_true rfl⟩ (fun p5 => ?_)
  refine s_if_eq hG 26 dc11_odds_8 (by decide) ?_ ?_
  · refine s_iconst (v := -1) hG dc11_odds_26 (by decide) ?_
    exact s_iret hG dc11_odds_27 rfl (Nat.le_of_ble_eq_true rfl) (Nat.le_of_ble_eq_true rfl)
  · refine s_iload_n hG dc11_odds_11 rfl ?_
    refine s_if_lt hG 26 dc11_odds_12 (by decide) ?_ ?_
    · refine s_iconst (v := -1) hG dc11_odds_26 (by decide) ?_
      exact s_iret hG dc11_odds_27 rfl (Nat.le_of_ble_eq_true rfl) (Nat.le_of_ble_eq_true rfl)
    · refine s_iload_n hG dc11_odds_15 rfl ?_
      refine s_iload_n hG dc11_odds_16 rfl ?_
      refine s_icmp_lt hG 26 dc11_odds_17 (by decide) ?_ ?_
      · refine s_iconst (v := -1) hG dc11_odds_26 (by decide) ?_
        exact s_iret hG dc11_odds_27 rfl (Nat.le_of_ble_eq_true rfl) (Nat.le_of_ble_eq_true rfl)
      · refine s_iload_n hG dc11_odds_20 rfl ?_
        refine s_bipush (v := 99) hG dc11_odds_21 (by decide) ?_
        refine s_icmp_le hG 28 dc11_odds_23 (by decide) ?_ ?_
        · refine s_iconst (v := 0) hG dc11_odds_28 (by decide) ?_
          refine s_istore hG dc11_odds_29 (by decide) ?_
          refine s_iload_n hG dc11_odds_31 rfl ?_
          refine s_istore hG dc11_odds_32 (by decide) ?_
          exact s_lv (lc rfl (lc rfl (lc rfl (lc rfl (lc rfl (lc rfl ln)))))) (pc11_odds_34 hG _ _ _ _ _ _ _ _)
        · refine s_iconst (v := -1) hG dc11_odds_26 (by decide) ?_
          exact s_iret hG dc11_odds_27 rfl (Nat.le_of_ble_eq_true rfl) (Nat.le_of_ble_eq_true rfl)
def fc9_drownsAny_2 (N : Nat) : Nat → Option Nat → Option Nat → Int32 → Int32 → Me → Option (Int32 × Me)
  | 0, _, _, _, _, _ => none
  | n + 1, l0, l1, l2, l3, σ =>
    (qI σ 9 6 l0).bind fun v4 =>
    if v4 ≤ l3 then
      retZ (0 : Int32) σ
    else
      (dr σ l0 (.inl 9)).bind fun a =>
      (fc9_fallOn N a l3 l2 σ).bind fun p13 =>
      (qI p13.2 2 7 l1).bind fun v17 =>
      if p13.1 < v17 then
        (fc9_drownsAny_2 N n) l0 l1 l2 (l3 + (1 : Int32)) p13.2
      else
        retZ (1 : Int32) p13.2
def fc9_drownsAny (N : Nat) (a0 : Nat) (x1 : Option Nat) (x2 : Int32) (σ : Me) : Option (Int32 × Me) :=
  fc9_drownsAny_2 N N (some a0) x1 x2 (0 : Int32) σ
set_option maxRecDepth 20000 in
set_option maxHeartbeats 2000000 in
theorem pc9_drownsAny_2 {Ω : Om} {Γ : Ga} {N : Nat} (hG : Good Ω Γ tc9_drownsAny 3 0 0)  : ∀ (n : Nat) (l0 : Option Nat) (l1 : Option Nat) (l2 : Int32) (l3 : Int32) (σ : Me), Sim Ω Γ 0 0 ιI 4 2 [(0, vR l0), (1, vR l1), (2, vI l2), (3, vI l3)] [] σ 0 0 (fc9_drownsAny_2 N n l0 l1 l2 l3 σ) := by
  intro n
  induction n with
  | zero => intros; exact s_none
  | succ n ih =>
    intro l0 l1 l2 l3 σ
    unfold fc9_drownsAny_2
    refine s_iload_n hG dc9_drownsAny_2 rfl ?_
    refine s_aload_n hG dc9_drownsAny_3 rfl ?_
    refine s_getI hG kFc9_38 rfl dc9_drownsAny_4 (fun v4 => ?_)
    refine s_icmp_ge hG 31 dc9_drownsAny_7 (by decide) ?_ ?_
    · refine s_iconst (v := 0) hG dc9_drownsAny_31 (by decide) ?_
      exact s_zret hG dc9_drownsAny_32 rfl (Nat.le_of_ble_eq_true rfl) (Nat.le_of_ble_eq_true rfl)
    · refine s_aload_n hG dc9_drownsAny_10 rfl ?_
      refine s_iload_n hG dc9_drownsAny_11 rfl ?_
      refine s_iload_n hG dc9_drownsAny_12 rfl ?_
      refine s_callVi hG kMc9_41 (fun a => corc9_fallOn N a _ _ _) ⟨by decide, rfl⟩ rfl (by first | decide | omega) dc9_drownsAny_13 rfl rfl (Nat.le_of_ble_eq_true rfl) ⟨Nat.le_of_ble_eq_true rfl, Nat.le_of_ble_eq_true rfl⟩ (fun p13 => ?_)
      refine s_aload_n hG dc9_drownsAny_16 rfl ?_
      refine s_getI hG kFc9_45 rfl dc9_drownsAny_17 (fun v17 => ?_)
      refine s_icmp_lt hG 25 dc9_drownsAny_20 (by decide) ?_ ?_
      · refine s_iinc (v := 1) hG dc9_drownsAny_25 rfl (by decide) (by decide) ?_
        refine s_goto hG 2 dc9_drownsAny_28 (by decide) ?_
        exact s_lv (lc rfl (lc rfl (lc rfl (lc rfl ln)))) (ih _ _ _ _ _)
      · refine s_iconst (v := 1) hG dc9_drownsAny_23 (by decide) ?_
        exact s_zret hG dc9_drownsAny_24 rfl (Nat.le_of_ble_eq_true rfl) (Nat.le_of_ble_eq_true rfl)
set_option maxRecDepth 20000 in
set_option maxHeartbeats 2000000 in
theorem corc9_drownsAny {Ω : Om} (N : Nat) (a0 : Nat) (x1 : Option Nat) (x2 : Int32) (σ : Me) : Cor Ω tc9_drownsAny 3 0 0 [vR (some a0), vR x1, vI x2] σ ιI (fc9_drownsAny N a0 x1 x2 σ) := by
  refine Cor.of (by decide +kernel) (Nat.le_of_ble_eq_true rfl) (fun Γ hG => ?_)
  unfold fc9_drownsAny
  show Sim Ω Γ 0 0 ιI 4 0 [(0, vR (some a0)), (1, vR x1), (2, vI x2)] [] σ 0 0 _
  refine s_iconst (v := 0) hG dc9_drownsAny_0 (by decide) ?_
  refine s_istore_n hG dc9_drownsAny_1 (by decide) ?_
  exact s_lv (lc rfl (lc rfl (lc rfl (lc rfl ln)))) (pc9_drownsAny_2 hG _ _ _ _ _ _)
def fc11_leastOf_87 (N : Nat) (l0 : Option Nat) (l1 : Int32) (l4 : Int32) (σ : Me) : Option (Int32 × Me) :=
  (qR σ 11 11 l0).bind fun v88 =>
  (qR σ 2 0 v88).bind fun v91 =>
  (qR σ 11 10 l0).bind fun v96 =>
  (qR σ 2 0 v96).bind fun v99 =>
  (ldI σ v99 l1).bind fun v103 =>
  (stI σ v91 l1 v103).bind fun σ104 =>
  (qR σ104 11 12 l0).bind fun v106 =>
  (qR σ104 11 11 l0).bind fun v110 =>
  (dr σ104 v106 (.inl 9)).bind fun a =>
  (fc9_weigh N a v110 l1 σ104).bind fun p114 =>
  some (l4, p114.2)
def fc11_leastOf_6 (N : Nat) : Nat → Option Nat → Int32 → Int32 → Int32 → Int32 → Int32 → Me → Option (Int32 × Me)
  | 0, _, _, _, _, _, _, _ => none
  | n + 1, l0, l1, l2, l3, l4, l5, σ =>
    (qR σ 11 10 l0).bind fun v9 =>
    (qR σ 2 0 v9).bind fun v12 =>
    (ldI σ v12 l1).bind fun v16 =>
    if v16 < l5 then
      fc11_leastOf_87 N l0 l1 l4 σ
    else
      if l3 ≤ l5 then
        fc11_leastOf_87 N l0 l1 l4 σ
      else
        (qR σ 11 11 l0).bind fun v27 =>
        (qR σ 2 0 v27).bind fun v30 =>
        (qR σ 11 10 l0).bind fun v35 =>
        (qR σ 2 0 v35).bind fun v38 =>
        (ldI σ v38 l1).bind fun v42 =>
        (stI σ v30 l1 (v42 - l5)).bind fun σ46 =>
        (qR σ46 11 12 l0).bind fun v48 =>
        (qR σ46 11 11 l0).bind fun v52 =>
        (dr σ46 v48 (.inl 9)).bind fun a =>
        (fc9_weigh N a v52 l1 σ46).bind fun p56 =>
        (qR p56.2 11 12 l0).bind fun v60 =>
        (qR p56.2 11 11 l0).bind fun v64 =>
        (dr p56.2 v60 (.inl 9)).bind fun a =>
        (fc9_drownsAny N a v64 l2 p56.2).bind fun p68 =>
        if p68.1 = 0 then
          fc11_leastOf_87 N l0 l1 l5 p68.2
        else
          (fc11_leastOf_6 N n) l0 l1 l2 l3 l4 (l5 + (1 : Int32)) p68.2
def fc11_leastOf (N : Nat) (a0 : Nat) (x1 : Int32) (x2 : Int32) (x3 : Int32) (σ : Me) : Option (Int32 × Me) :=
  fc11_leastOf_6 N N (some a0) x1 x2 x3 x3 (1 : Int32) σ
set_option maxRecDepth 20000 in
set_option maxHeartbeats 2000000 in
theorem pc11_leastOf_87 {Ω : Om} {Γ : Ga} {N : Nat} (hG : Good Ω Γ tc11_leastOf 4 0 0) (l0 : Option Nat) (l1 : Int32) (l4 : Int32) (σ : Me) : Sim Ω Γ 0 0 ιI 6 87 [(0, vR l0), (1, vI l1), (4, vI l4)] [] σ 0 0 (fc11_leastOf_87 N l0 l1 l4 σ) := by
  unfold fc11_leastOf_87
  refine s_aload_n hG dc11_leastOf_87 rfl ?_
  refine s_getR hG kFc11_62 rfl dc11_leastOf_88 (fun v88 => ?_)
  refine s_getR hG kFc11_186 rfl dc11_leastOf_91 (fun v91 => ?_)
  refine s_iload_n hG dc11_leastOf_94 rfl ?_
  refine s_aload_n hG dc11_leastOf_95 rfl ?_
  refine s_getR hG kFc11_58 rfl dc11_leastOf_96 (fun v96 => ?_)
  refine s_getR hG kFc11_186 rfl dc11_leastOf_99 (fun v99 => ?_)
  refine s_iload_n hG dc11_leastOf_102 rfl ?_
  refine s_iald hG dc11_leastOf_103 (fun v103 => ?_)
  refine s_iast hG dc11_leastOf_104 (fun σ104 => ?_)
  refine s_aload_n hG dc11_leastOf_105 rfl ?_
  refine s_getR hG kFc11_68 rfl dc11_leastOf_106 (fun v106 => ?_)
  refine s_aload_n hG dc11_leastOf_109 rfl ?_
  refine s_getR hG kFc11_62 rfl dc11_leastOf_110 (fun v110 => ?_)
  refine s_iload_n hG dc11_leastOf_113 rfl ?_
  refine s_callVv hG kMc11_351 (fun a => corc9_weigh N a _ _ _) ⟨by decide, rfl⟩ rfl (by first | decide | omega) dc11_leastOf_114 rfl rfl (Nat.le_of_ble_eq_true rfl) ⟨Nat.le_of_ble_eq_true rfl, Nat.le_of_ble_eq_true rfl⟩ (fun p114 => ?_)
  refine s_iload hG dc11_leastOf_117 rfl ?_
  exact s_iret hG dc11_leastOf_119 rfl (Nat.le_of_ble_eq_true rfl) (Nat.le_of_ble_eq_true rfl)
set_option maxRecDepth 20000 in
set_option maxHeartbeats 2000000 in
theorem pc11_leastOf_6 {Ω : Om} {Γ : Ga} {N : Nat} (hG : Good Ω Γ tc11_leastOf 4 0 0)  : ∀ (n : Nat) (l0 : Option Nat) (l1 : Int32) (l2 : Int32) (l3 : Int32) (l4 : Int32) (l5 : Int32) (σ : Me), Sim Ω Γ 0 0 ιI 6 6 [(0, vR l0), (1, vI l1), (2, vI l2), (3, vI l3), (4, vI l4), (5, vI l5)] [] σ 0 0 (fc11_leastOf_6 N n l0 l1 l2 l3 l4 l5 σ) := by
  intro n
  induction n with
  | zero => intros; exact s_none
  | succ n ih =>
    intro l0 l1 l2 l3 l4 l5 σ
    unfold fc11_leastOf_6
    refine s_iload hG dc11_leastOf_6 rfl ?_
    refine s_aload_n hG dc11_leastOf_8 rfl ?_
    refine s_getR hG kFc11_58 rfl dc11_leastOf_9 (fun v9 => ?_)
    refine s_getR hG kFc11_186 rfl dc11_leastOf_12 (fun v12 => ?_)
    refine s_iload_n hG dc11_leastOf_15 rfl ?_
    refine s_iald hG dc11_leastOf_16 (fun v16 => ?_)
    refine s_icmp_gt hG 87 dc11_leastOf_17 (by decide) ?_ ?_
    · exact s_lv (lc rfl (lc rfl (lc rfl ln))) (pc11_leastOf_87 hG _ _ _ _)
    · refine s_iload hG dc11_leastOf_20 rfl ?_
      refine s_iload_n hG dc11_leastOf_22 rfl ?_
      refine s_icmp_ge hG 87 dc11_leastOf_23 (by decide) ?_ ?_
      · exact s_lv (lc rfl (lc rfl (lc rfl ln))) (pc11_leastOf_87 hG _ _ _ _)
      · refine s_aload_n hG dc11_leastOf_26 rfl ?_
        refine s_getR hG kFc11_62 rfl dc11_leastOf_27 (fun v27 => ?_)
        refine s_getR hG kFc11_186 rfl dc11_leastOf_30 (fun v30 => ?_)
        refine s_iload_n hG dc11_leastOf_33 rfl ?_
        refine s_aload_n hG dc11_leastOf_34 rfl ?_
        refine s_getR hG kFc11_58 rfl dc11_leastOf_35 (fun v35 => ?_)
        refine s_getR hG kFc11_186 rfl dc11_leastOf_38 (fun v38 => ?_)
        refine s_iload_n hG dc11_leastOf_41 rfl ?_
        refine s_iald hG dc11_leastOf_42 (fun v42 => ?_)
        refine s_iload hG dc11_leastOf_43 rfl ?_
        refine s_isub hG dc11_leastOf_45 ?_
        refine s_iast hG dc11_leastOf_46 (fun σ46 => ?_)
        refine s_aload_n hG dc11_leastOf_47 rfl ?_
        refine s_getR hG kFc11_68 rfl dc11_leastOf_48 (fun v48 => ?_)
        refine s_aload_n hG dc11_leastOf_51 rfl ?_
        refine s_getR hG kFc11_62 rfl dc11_leastOf_52 (fun v52 => ?_)
        refine s_iload_n hG dc11_leastOf_55 rfl ?_
        refine s_callVv hG kMc11_351 (fun a => corc9_weigh N a _ _ _) ⟨by decide, rfl⟩ rfl (by first | decide | omega) dc11_leastOf_56 rfl rfl (Nat.le_of_ble_eq_true rfl) ⟨Nat.le_of_ble_eq_true rfl, Nat.le_of_ble_eq_true rfl⟩ (fun p56 => ?_)
        refine s_aload_n hG dc11_leastOf_59 rfl ?_
        refine s_getR hG kFc11_68 rfl dc11_leastOf_60 (fun v60 => ?_)
        refine s_aload_n hG dc11_leastOf_63 rfl ?_
        refine s_getR hG kFc11_62 rfl dc11_leastOf_64 (fun v64 => ?_)
        refine s_iload_n hG dc11_leastOf_67 rfl ?_
        refine s_callVi hG kMc11_354 (fun a => corc9_drownsAny N a _ _ _) ⟨by decide, rfl⟩ rfl (by first | decide | omega) dc11_leastOf_68 rfl rfl (Nat.le_of_ble_eq_true rfl) ⟨Nat.le_of_ble_eq_true rfl, Nat.le_of_ble_eq_true rfl⟩ (fun p68 => ?_)
        refine s_if_ne hG 81 dc11_leastOf_71 (by decide) ?_ ?_
        · refine s_iinc (v := 1) hG dc11_leastOf_81 rfl (by decide) (by decide) ?_
          refine s_goto hG 6 dc11_leastOf_84 (by decide) ?_
          exact s_lv (lc rfl (lc rfl (lc rfl (lc rfl (lc rfl (lc rfl ln)))))) (ih _ _ _ _ _ _ _)
        · refine s_iload hG dc11_leastOf_74 rfl ?_
          refine s_istore hG dc11_leastOf_76 (by decide) ?_
          refine s_goto hG 87 dc11_leastOf_78 (by decide) ?_
          exact s_lv (lc rfl (lc rfl (lc rfl ln))) (pc11_leastOf_87 hG _ _ _ _)
set_option maxRecDepth 20000 in
set_option maxHeartbeats 2000000 in
theorem corc11_leastOf {Ω : Om} (N : Nat) (a0 : Nat) (x1 : Int32) (x2 : Int32) (x3 : Int32) (σ : Me) : Cor Ω tc11_leastOf 4 0 0 [vR (some a0), vI x1, vI x2, vI x3] σ ιI (fc11_leastOf N a0 x1 x2 x3 σ) := by
  refine Cor.of (by decide +kernel) (Nat.le_of_ble_eq_true rfl) (fun Γ hG => ?_)
  unfold fc11_leastOf
  show Sim Ω Γ 0 0 ιI 6 0 [(0, vR (some a0)), (1, vI x1), (2, vI x2), (3, vI x3)] [] σ 0 0 _
  refine s_iload_n hG dc11_leastOf_0 rfl ?_
  refine s_istore hG dc11_leastOf_1 (by decide) ?_
  refine s_iconst (v := 1) hG dc11_leastOf_3 (by decide) ?_
  refine s_istore hG dc11_leastOf_4 (by decide) ?_
  exact s_lv (lc rfl (lc rfl (lc rfl (lc rfl (lc rfl (lc rfl ln)))))) (pc11_leastOf_6 hG _ _ _ _ _ _ _ _)
def fc11_least_101 (N : Nat) (K64 : Option Nat → Int32 → Int32 → Int32 → Int32 → Int32 → Me → Option (Int32 × Me)) (l0 : Option Nat) (l1 : Int32) (l2 : Int32) (l3 : Int32) (l4 : Int32) (l5 : Int32) (σ : Me) : Option (Int32 × Me) :=
  K64 l0 l1 l2 l3 l4 (l5 + (1 : Int32)) σ
def fc11_least_64 (N : Nat) : Nat → Option Nat → Int32 → Int32 → Int32 → Int32 → Int32 → Me → Option (Int32 × Me)
  | 0, _, _, _, _, _, _, _ => none
  | n + 1, l0, l1, l2, l3, l4, l5, σ =>
    (qR σ 11 10 l0).bind fun v67 =>
    (qI σ 2 5 v67).bind fun v70 =>
    if v70 ≤ l5 then
      if l3 = (-1 : Int32) then
        some ((-1 : Int32), σ)
      else
        if l2 = 0 then
          some (l3, σ)
        else
          some (l4, σ)
    else
      (dr σ l0 (.inl 11)).bind fun a =>
      (fc11_leastOf N a l5 l1 l4 σ).bind fun p82 =>
      if l4 ≤ p82.1 then
        fc11_least_101 N (fc11_least_64 N n) l0 l1 l2 l3 l4 l5 p82.2
      else
        fc11_least_101 N (fc11_least_64 N n) l0 l1 l2 l5 p82.1 l5 p82.2
def fc11_least (N : Nat) (a0 : Nat) (x1 : Int32) (x2 : Int32) (σ : Me) : Option (Int32 × Me) :=
  (dr σ (some a0) (.inl 11)).bind fun a =>
  (fc11_isSky N a x1 σ).bind fun p2 =>
  if p2.1 = 0 then
    some ((-1 : Int32), p2.2)
  else
    if x2 < 0 then
      some ((-1 : Int32), p2.2)
    else
      if x2 ≤ (1 : Int32) then
        (qR p2.2 11 12 (some a0)).bind fun v20 =>
        (qR p2.2 11 10 (some a0)).bind fun v24 =>
        (dr p2.2 v20 (.inl 9)).bind fun a =>
        (fc9_look N a v24 x1 p2.2).bind fun p28 =>
        (qR p28.2 11 12 (some a0)).bind fun v32 =>
        (qI p28.2 9 8 v32).bind fun v35 =>
        if v35 = 0 then
          some ((0 : Int32), p28.2)
        else
          (qR p28.2 11 11 (some a0)).bind fun v44 =>
          (qR p28.2 11 10 (some a0)).bind fun v48 =>
          (dr p28.2 v44 (.inl 2)).bind fun a =>
          (fc2_copyFrom N a v48 p28.2).bind fun p51 =>
          fc11_least_64 N N (some a0) x1 x2 (-1 : Int32) (1000 : Int32) (0 : Int32) p51.2
      else
        some ((-1 : Int32), p2.2)
set_option maxRecDepth 20000 in
set_option maxHeartbeats 2000000 in
theorem pc11_least_101 {Ω : Om} {Γ : Ga} {N : Nat} (hG : Good Ω Γ tc11_least 6 0 0) {K64 : Option Nat → Int32 → Int32 → Int32 → Int32 → Int32 → Me → Option (Int32 × Me)} (hK64 : ∀ (l0 : Option Nat) (l1 : Int32) (l2 : Int32) (l3 : Int32) (l4 : Int32) (l5 : Int32) (σ : Me), Sim Ω Γ 0 0 ιI 7 64 [(0, vR l0), (1, vI l1), (2, vI l2), (3, vI l3), (4, vI l4), (5, vI l5)] [] σ 0 0 (K64 l0 l1 l2 l3 l4 l5 σ)) (l0 : Option Nat) (l1 : Int32) (l2 : Int32) (l3 : Int32) (l4 : Int32) (l5 : Int32) (σ : Me) : Sim Ω Γ 0 0 ιI 7 101 [(0, vR l0), (1, vI l1), (2, vI l2), (3, vI l3), (4, vI l4), (5, vI l5)] [] σ 0 0 (fc11_least_101 N K64 l0 l1 l2 l3 l4 l5 σ) := by
  unfold fc11_least_101
  refine s_iinc (v := 1) hG dc11_least_101 rfl (by decide) (by decide) ?_
  refine s_goto hG 64 dc11_least_104 (by decide) ?_
  exact s_lv (lc rfl (lc rfl (lc rfl (lc rfl (lc rfl (lc rfl ln)))))) (hK64 _ _ _ _ _ _ _)
set_option maxRecDepth 20000 in
set_option maxHeartbeats 2000000 in
theorem pc11_least_64 {Ω : Om} {Γ : Ga} {N : Nat} (hG : Good Ω Γ tc11_least 6 0 0)  : ∀ (n : Nat) (l0 : Option Nat) (l1 : Int32) (l2 : Int32) (l3 : Int32) (l4 : Int32) (l5 : Int32) (σ : Me), Sim Ω Γ 0 0 ιI 7 64 [(0, vR l0), (1, vI l1), (2, vI l2), (3, vI l3), (4, vI l4), (5, vI l5)] [] σ 0 0 (fc11_least_64 N n l0 l1 l2 l3 l4 l5 σ) := by
  intro n
  induction n with
  | zero => intros; exact s_none
  | succ n ih =>
    intro l0 l1 l2 l3 l4 l5 σ
    unfold fc11_least_64
    refine s_iload hG dc11_least_64 rfl ?_
    refine s_aload_n hG dc11_least_66 rfl ?_
    refine s_getR hG kFc11_58 rfl dc11_least_67 (fun v67 => ?_)
    refine s_getI hG kFc11_154 rfl dc11_least_70 (fun v70 => ?_)
    refine s_icmp_ge hG 107 dc11_least_73 (by decide) ?_ ?_
    · refine s_iload_n hG dc11_least_107 rfl ?_
      refine s_iconst (v := -1) hG dc11_least_108 (by decide) ?_
      refine s_icmp_ne hG 116 dc11_least_109 (by decide) ?_ ?_
      · refine s_iload_n hG dc11_least_116 rfl ?_
        refine s_if_ne hG 124 dc11_least_117 (by decide) ?_ ?_
        · refine s_iload hG dc11_least_124 rfl ?_
          exact s_iret hG dc11_least_126 rfl (Nat.le_of_ble_eq_true rfl) (Nat.le_of_ble_eq_true rfl)
        · refine s_iload_n hG dc11_least_120 rfl ?_
          refine s_goto hG 126 dc11_least_121 (by decide) ?_
          exact s_iret hG dc11_least_126 rfl (Nat.le_of_ble_eq_true rfl) (Nat.le_of_ble_eq_true rfl)
      · refine s_iconst (v := -1) hG dc11_least_112 (by decide) ?_
        refine s_goto hG 126 dc11_least_113 (by decide) ?_
        exact s_iret hG dc11_least_126 rfl (Nat.le_of_ble_eq_true rfl) (Nat.le_of_ble_eq_true rfl)
    · refine s_aload_n hG dc11_least_76 rfl ?_
      refine s_iload hG dc11_least_77 rfl ?_
      refine s_iload_n hG dc11_least_79 rfl ?_
      refine s_iload hG dc11_least_80 rfl ?_
      refine s_callVi hG kMc11_347 (fun a => corc11_leastOf N a _ _ _ _) ⟨by decide, rfl⟩ rfl (by first | decide | omega) dc11_least_82 rfl rfl (Nat.le_of_ble_eq_true rfl) ⟨Nat.le_of_ble_eq_true rfl, Nat.le_of_ble_eq_true rfl⟩ (fun p82 => ?_)
      refine s_istore hG dc11_least_85 (by decide) ?_
      refine s_iload hG dc11_least_87 rfl ?_
      refine s_iload hG dc11_least_89 rfl ?_
      refine s_icmp_ge hG 101 dc11_least_91 (by decide) ?_ ?_
      · exact s_lv (lc rfl (lc rfl (lc rfl (lc rfl (lc rfl (lc rfl ln)))))) (pc11_least_101 hG ih _ _ _ _ _ _ _)
      · refine s_iload hG dc11_least_94 rfl ?_
        refine s_istore hG dc11_least_96 (by decide) ?_
        refine s_iload hG dc11_least_98 rfl ?_
        refine s_istore_n hG dc11_least_100 (by decide) ?_
        exact s_lv (lc rfl (lc rfl (lc rfl (lc rfl (lc rfl (lc rfl ln)))))) (pc11_least_101 hG ih _ _ _ _ _ _ _)
set_option maxRecDepth 20000 in
set_option maxHeartbeats 2000000 in
theorem corc11_least {Ω : Om} (N : Nat) (a0 : Nat) (x1 : Int32) (x2 : Int32) (σ : Me) : Cor Ω tc11_least 6 0 0 [vR (some a0), vI x1, vI x2] σ ιI (fc11_least N a0 x1 x2 σ) := by
  refine Cor.of (by decide +kernel) (Nat.le_of_ble_eq_true rfl) (fun Γ hG => ?_)
  unfold fc11_least
  show Sim Ω Γ 0 0 ιI 7 0 [(0, vR (some a0)), (1, vI x1), (2, vI x2)] [] σ 0 0 _
  refine s_aload_n hG dc11_least_0 rfl ?_
  refine s_iload_n hG dc11_least_1 rfl ?_
  refine s_callVi hG kMc11_251 (fun a => corc11_isSky N a _ _) ⟨by decide, rfl⟩ rfl (by first | decide | omega) dc11_least_2 rfl rfl (Nat.le_of_ble_eq_true rfl) ⟨Nat.le_of_ble_eq_true rfl, Nat.le_of_ble_eq_true rfl⟩ (fun p2 => ?_)
  refine s_if_eq hG 17 dc11_least_5 (by decide) ?_ ?_
  · refine s_iconst (v := -1) hG dc11_least_17 (by decide) ?_
    exact s_iret hG dc11_least_18 rfl (Nat.le_of_ble_eq_true rfl) (Nat.le_of_ble_eq_true rfl)
  · refine s_iload_n hG dc11_least_8 rfl ?_
    refine s_if_lt hG 17 dc11_least_9 (by decide) ?_ ?_
    · refine s_iconst (v := -1) hG dc11_least_17 (by decide) ?_
      exact s_iret hG dc11_least_18 rfl (Nat.le_of_ble_eq_true rfl) (Nat.le_of_ble_eq_true rfl)
    · refine s_iload_n hG dc11_least_12 rfl ?_
      refine s_iconst (v := 1) hG dc11_least_13 (by decide) ?_
      refine s_icmp_le hG 19 dc11_least_14 (by decide) ?_ ?_
      · refine s_aload_n hG dc11_least_19 rfl ?_
        refine s_getR hG kFc11_68 rfl dc11_least_20 (fun v20 => ?_)
        refine s_aload_n hG dc11_least_23 rfl ?_
        refine s_getR hG kFc11_58 rfl dc11_least_24 (fun v24 => ?_)
        refine s_iload_n hG dc11_least_27 rfl ?_
        refine s_callVv hG kMc11_315 (fun a => corc9_look N a _ _ _) ⟨by decide, rfl⟩ rfl (by first | decide | omega) dc11_least_28 rfl rfl (Nat.le_of_ble_eq_true rfl) ⟨Nat.le_of_ble_eq_true rfl, Nat.le_of_ble_eq_true rfl⟩ (fun p28 => ?_)
        refine s_aload_n hG dc11_least_31 rfl ?_
        refine s_getR hG kFc11_68 rfl dc11_least_32 (fun v32 => ?_)
        refine s_getI hG kFc11_319 rfl dc11_least_35 (fun v35 => ?_)
        refine s_if_ne hG 43 dc11_least_38 (by decide) ?_ ?_
        · refine s_aload_n hG dc11_least_43 rfl ?_
          refine s_getR hG kFc11_62 rfl dc11_least_44 (fun v44 => ?_)
          refine s_aload_n hG dc11_least_47 rfl ?_
          refine s_getR hG kFc11_58 rfl dc11_least_48 (fun v48 => ?_)
          refine s_callVv hG kMc11_140 (fun a => corc2_copyFrom N a _ _) ⟨by decide, rfl⟩ rfl (by first | decide | omega) dc11_least_51 rfl rfl (Nat.le_of_ble_eq_true rfl) ⟨Nat.le_of_ble_eq_true rfl, Nat.le_of_ble_eq_true rfl⟩ (fun p51 => ?_)
          refine s_iconst (v := -1) hG dc11_least_54 (by decide) ?_
          refine s_istore_n hG dc11_least_55 (by decide) ?_
          refine s_sipush (v := 1000) hG dc11_least_56 (by decide) ?_
          refine s_istore hG dc11_least_59 (by decide) ?_
          refine s_iconst (v := 0) hG dc11_least_61 (by decide) ?_
          refine s_istore hG dc11_least_62 (by decide) ?_
          exact s_lv (lc rfl (lc rfl (lc rfl (lc rfl (lc rfl (lc rfl ln)))))) (pc11_least_64 hG _ _ _ _ _ _ _ _)
        · refine s_iconst (v := 0) hG dc11_least_41 (by decide) ?_
          exact s_iret hG dc11_least_42 rfl (Nat.le_of_ble_eq_true rfl) (Nat.le_of_ble_eq_true rfl)
      · refine s_iconst (v := -1) hG dc11_least_17 (by decide) ?_
        exact s_iret hG dc11_least_18 rfl (Nat.le_of_ble_eq_true rfl) (Nat.le_of_ble_eq_true rfl)
def fc11_lookBehindSale (N : Nat) (a0 : Nat) (x1 : Int32) (x2 : Int32) (x3 : Int32) (x4 : Int32) (σ : Me) : Option (Unit × Me) :=
  (qR σ 11 11 (some a0)).bind fun v1 =>
  (qR σ 11 10 (some a0)).bind fun v5 =>
  (dr σ v1 (.inl 2)).bind fun a =>
  (fc2_copyFrom N a v5 σ).bind fun p8 =>
  (qR p8.2 11 11 (some a0)).bind fun v12 =>
  (dr p8.2 v12 (.inl 2)).bind fun a =>
  (fc2_handOver N a x1 x2 x3 p8.2).bind fun p18 =>
  (qR p18.2 11 12 (some a0)).bind fun v22 =>
  (qR p18.2 11 11 (some a0)).bind fun v26 =>
  (dr p18.2 v22 (.inl 9)).bind fun a =>
  (fc9_look N a v26 x4 p18.2).bind fun p31 =>
  some ((), p31.2)
set_option maxRecDepth 20000 in
set_option maxHeartbeats 2000000 in
theorem corc11_lookBehindSale {Ω : Om} (N : Nat) (a0 : Nat) (x1 : Int32) (x2 : Int32) (x3 : Int32) (x4 : Int32) (σ : Me) : Cor Ω tc11_lookBehindSale 6 0 0 [vR (some a0), vI x1, vI x2, vI x3, vI x4] σ ιV (fc11_lookBehindSale N a0 x1 x2 x3 x4 σ) := by
  refine Cor.of (by decide +kernel) (Nat.le_of_ble_eq_true rfl) (fun Γ hG => ?_)
  unfold fc11_lookBehindSale
  show Sim Ω Γ 0 0 ιV 5 0 [(0, vR (some a0)), (1, vI x1), (2, vI x2), (3, vI x3), (4, vI x4)] [] σ 0 0 _
  refine s_aload_n hG dc11_lookBehindSale_0 rfl ?_
  refine s_getR hG kFc11_62 rfl dc11_lookBehindSale_1 (fun v1 => ?_)
  refine s_aload_n hG dc11_lookBehindSale_4 rfl ?_
  refine s_getR hG kFc11_58 rfl dc11_lookBehindSale_5 (fun v5 => ?_)
  refine s_callVv hG kMc11_140 (fun a => corc2_copyFrom N a _ _) ⟨by decide, rfl⟩ rfl (by first | decide | omega) dc11_lookBehindSale_8 rfl rfl (Nat.le_of_ble_eq_true rfl) ⟨Nat.le_of_ble_eq_true rfl, Nat.le_of_ble_eq_true rfl⟩ (fun p8 => ?_)
  refine s_aload_n hG dc11_lookBehindSale_11 rfl ?_
  refine s_getR hG kFc11_62 rfl dc11_lookBehindSale_12 (fun v12 => ?_)
  refine s_iload_n hG dc11_lookBehindSale_15 rfl ?_
  refine s_iload_n hG dc11_lookBehindSale_16 rfl ?_
  refine s_iload_n hG dc11_lookBehindSale_17 rfl ?_
  refine s_callVv hG kMc11_268 (fun a => corc2_handOver N a _ _ _ _) ⟨by decide, rfl⟩ rfl (by first | decide | omega) dc11_lookBehindSale_18 rfl rfl (Nat.le_of_ble_eq_true rfl) ⟨Nat.le_of_ble_eq_true rfl, Nat.le_of_ble_eq_true rfl⟩ (fun p18 => ?_)
  refine s_aload_n hG dc11_lookBehindSale_21 rfl ?_
  refine s_getR hG kFc11_68 rfl dc11_lookBehindSale_22 (fun v22 => ?_)
  refine s_aload_n hG dc11_lookBehindSale_25 rfl ?_
  refine s_getR hG kFc11_62 rfl dc11_lookBehindSale_26 (fun v26 => ?_)
  refine s_iload hG dc11_lookBehindSale_29 rfl ?_
  refine s_callVv hG kMc11_315 (fun a => corc9_look N a _ _ _) ⟨by decide, rfl⟩ rfl (by first | decide | omega) dc11_lookBehindSale_31 rfl rfl (Nat.le_of_ble_eq_true rfl) ⟨Nat.le_of_ble_eq_true rfl, Nat.le_of_ble_eq_true rfl⟩ (fun p31 => ?_)
  exact s_vret hG dc11_lookBehindSale_34 rfl (Nat.le_of_ble_eq_true rfl) (Nat.le_of_ble_eq_true rfl)
def fc11_best_134 (N : Nat) (K27 : Option Nat → Int32 → Int32 → Int32 → Int32 → Int32 → Me → Option (Int32 × Me)) (K42 : Option Nat → Int32 → Int32 → Int32 → Int32 → Int32 → Int32 → Me → Option (Int32 × Me)) (K57 : Option Nat → Int32 → Int32 → Int32 → Int32 → Int32 → Int32 → Int32 → Me → Option (Int32 × Me)) (l0 : Option Nat) (l1 : Int32) (l2 : Int32) (l3 : Int32) (l4 : Int32) (l5 : Int32) (l6 : Int32) (l7 : Int32) (σ : Me) : Option (Int32 × Me) :=
  K57 l0 l1 l2 l3 l4 l5 l6 (l7 + (1 : Int32)) σ
def fc11_best_57 (N : Nat) (K27 : Option Nat → Int32 → Int32 → Int32 → Int32 → Int32 → Me → Option (Int32 × Me)) (K42 : Option Nat → Int32 → Int32 → Int32 → Int32 → Int32 → Int32 → Me → Option (Int32 × Me)) : Nat → Option Nat → Int32 → Int32 → Int32 → Int32 → Int32 → Int32 → Int32 → Me → Option (Int32 × Me)
  | 0, _, _, _, _, _, _, _, _, _ => none
  | n + 1, l0, l1, l2, l3, l4, l5, l6, l7, σ =>
    if (9 : Int32) < l7 then
      K42 l0 l1 l2 l3 l4 l5 (l6 + (1 : Int32)) σ
    else
      if l5 = l6 then
        fc11_best_134 N K27 K42 (fc11_best_57 N K27 K42 n) l0 l1 l2 l3 l4 l5 l6 l7 σ
      else
        (qR σ 11 10 l0).bind fun v72 =>
        (dr σ v72 (.inl 2)).bind fun a =>
        (fc2_isSale N a l5 l6 l7 σ).bind fun p81 =>
        if p81.1 = 0 then
          fc11_best_134 N K27 K42 (fc11_best_57 N K27 K42 n) l0 l1 l2 l3 l4 l5 l6 l7 p81.2
        else
          (dr p81.2 l0 (.inl 11)).bind fun a =>
          (fc11_lookBehindSale N a l5 l6 l7 l1 p81.2).bind fun p95 =>
          (qR p95.2 11 12 l0).bind fun v99 =>
          (qI p95.2 9 9 v99).bind fun v102 =>
          if v102 ≤ l4 then
            fc11_best_134 N K27 K42 (fc11_best_57 N K27 K42 n) l0 l1 l2 l3 l4 l5 l6 l7 p95.2
          else
            (qR p95.2 11 12 l0).bind fun v111 =>
            (qI p95.2 9 9 v111).bind fun v114 =>
            fc11_best_134 N K27 K42 (fc11_best_57 N K27 K42 n) l0 l1 l2 ((((100 : Int32) * l5) + ((10 : Int32) * l6)) + l7) v114 l5 l6 l7 p95.2
def fc11_best_42 (N : Nat) (K27 : Option Nat → Int32 → Int32 → Int32 → Int32 → Int32 → Me → Option (Int32 × Me)) : Nat → Option Nat → Int32 → Int32 → Int32 → Int32 → Int32 → Int32 → Me → Option (Int32 × Me)
  | 0, _, _, _, _, _, _, _, _ => none
  | n + 1, l0, l1, l2, l3, l4, l5, l6, σ =>
    (qR σ 11 10 l0).bind fun v45 =>
    (qI σ 2 5 v45).bind fun v48 =>
    if v48 ≤ l6 then
      K27 l0 l1 l2 l3 l4 (l5 + (1 : Int32)) σ
    else
      fc11_best_57 N K27 (fc11_best_42 N K27 n) N l0 l1 l2 l3 l4 l5 l6 (1 : Int32) σ
def fc11_best_27 (N : Nat) : Nat → Option Nat → Int32 → Int32 → Int32 → Int32 → Int32 → Me → Option (Int32 × Me)
  | 0, _, _, _, _, _, _, _ => none
  | n + 1, l0, l1, l2, l3, l4, l5, σ =>
    (qR σ 11 10 l0).bind fun v30 =>
    (qI σ 2 5 v30).bind fun v33 =>
    if v33 ≤ l5 then
      if l2 = 0 then
        some (l3, σ)
      else
        some (l4, σ)
    else
      fc11_best_42 N (fc11_best_27 N n) N l0 l1 l2 l3 l4 l5 (0 : Int32) σ
def fc11_best (N : Nat) (a0 : Nat) (x1 : Int32) (x2 : Int32) (σ : Me) : Option (Int32 × Me) :=
  (dr σ (some a0) (.inl 11)).bind fun a =>
  (fc11_isSky N a x1 σ).bind fun p2 =>
  if p2.1 = 0 then
    some ((-1 : Int32), p2.2)
  else
    if x2 < 0 then
      some ((-1 : Int32), p2.2)
    else
      if x2 ≤ (1 : Int32) then
        fc11_best_27 N N (some a0) x1 x2 (-1 : Int32) (-1 : Int32) (0 : Int32) p2.2
      else
        some ((-1 : Int32), p2.2)
set_option maxRecDepth 20000 in
set_option maxHeartbeats 2000000 in
theorem pc11_best_134 {Ω : Om} {Γ : Ga} {N : Nat} (hG : Good Ω Γ tc11_best 7 0 0) {K27 : Option Nat → Int32 → Int32 → Int32 → Int32 → Int32 → Me → Option (Int32 × Me)} {K42 : Option Nat → Int32 → Int32 → Int32 → Int32 → Int32 → Int32 → Me → Option (Int32 × Me)} {K57 : Option Nat → Int32 → Int32 → Int32 → Int32 → Int32 → Int32 → Int32 → Me → Option (Int32 × Me)} (hK27 : ∀ (l0 : Option Nat) (l1 : Int32) (l2 : Int32) (l3 : Int32) (l4 : Int32) (l5 : Int32) (σ : Me), Sim Ω Γ 0 0 ιI 8 27 [(0, vR l0), (1, vI l1), (2, vI l2), (3, vI l3), (4, vI l4), (5, vI l5)] [] σ 0 0 (K27 l0 l1 l2 l3 l4 l5 σ)) (hK42 : ∀ (l0 : Option Nat) (l1 : Int32) (l2 : Int32) (l3 : Int32) (l4 : Int32) (l5 : Int32) (l6 : Int32) (σ : Me), Sim Ω Γ 0 0 ιI 8 42 [(0, vR l0), (1, vI l1), (2, vI l2), (3, vI l3), (4, vI l4), (5, vI l5), (6, vI l6)] [] σ 0 0 (K42 l0 l1 l2 l3 l4 l5 l6 σ)) (hK57 : ∀ (l0 : Option Nat) (l1 : Int32) (l2 : Int32) (l3 : Int32) (l4 : Int32) (l5 : Int32) (l6 : Int32) (l7 : Int32) (σ : Me), Sim Ω Γ 0 0 ιI 8 57 [(0, vR l0), (1, vI l1), (2, vI l2), (3, vI l3), (4, vI l4), (5, vI l5), (6, vI l6), (7, vI l7)] [] σ 0 0 (K57 l0 l1 l2 l3 l4 l5 l6 l7 σ)) (l0 : Option Nat) (l1 : Int32) (l2 : Int32) (l3 : Int32) (l4 : Int32) (l5 : Int32) (l6 : Int32) (l7 : Int32) (σ : Me) : Sim Ω Γ 0 0 ιI 8 134 [(0, vR l0), (1, vI l1), (2, vI l2), (3, vI l3), (4, vI l4), (5, vI l5), (6, vI l6), (7, vI l7)] [] σ 0 0 (fc11_best_134 N K27 K42 K57 l0 l1 l2 l3 l4 l5 l6 l7 σ) := by
  unfold fc11_best_134
  refine s_iinc (v := 1) hG dc11_best_134 rfl (by decide) (by decide) ?_
  refine s_goto hG 57 dc11_best_137 (by decide) ?_
  exact s_lv (lc rfl (lc rfl (lc rfl (lc rfl (lc rfl (lc rfl (lc rfl (lc rfl ln)))))))) (hK57 _ _ _ _ _ _ _ _ _)
set_option maxRecDepth 20000 in
set_option maxHeartbeats 2000000 in
theorem pc11_best_57 {Ω : Om} {Γ : Ga} {N : Nat} (hG : Good Ω Γ tc11_best 7 0 0) {K27 : Option Nat → Int32 → Int32 → Int32 → Int32 → Int32 → Me → Option (Int32 × Me)} {K42 : Option Nat → Int32 → Int32 → Int32 → Int32 → Int32 → Int32 → Me → Option (Int32 × Me)} (hK27 : ∀ (l0 : Option Nat) (l1 : Int32) (l2 : Int32) (l3 : Int32) (l4 : Int32) (l5 : Int32) (σ : Me), Sim Ω Γ 0 0 ιI 8 27 [(0, vR l0), (1, vI l1), (2, vI l2), (3, vI l3), (4, vI l4), (5, vI l5)] [] σ 0 0 (K27 l0 l1 l2 l3 l4 l5 σ)) (hK42 : ∀ (l0 : Option Nat) (l1 : Int32) (l2 : Int32) (l3 : Int32) (l4 : Int32) (l5 : Int32) (l6 : Int32) (σ : Me), Sim Ω Γ 0 0 ιI 8 42 [(0, vR l0), (1, vI l1), (2, vI l2), (3, vI l3), (4, vI l4), (5, vI l5), (6, vI l6)] [] σ 0 0 (K42 l0 l1 l2 l3 l4 l5 l6 σ))  : ∀ (n : Nat) (l0 : Option Nat) (l1 : Int32) (l2 : Int32) (l3 : Int32) (l4 : Int32) (l5 : Int32) (l6 : Int32) (l7 : Int32) (σ : Me), Sim Ω Γ 0 0 ιI 8 57 [(0, vR l0), (1, vI l1), (2, vI l2), (3, vI l3), (4, vI l4), (5, vI l5), (6, vI l6), (7, vI l7)] [] σ 0 0 (fc11_best_57 N K27 K42 n l0 l1 l2 l3 l4 l5 l6 l7 σ) := by
  intro n
  induction n with
  | zero => intros; exact s_none
  | succ n ih =>
    intro l0 l1 l2 l3 l4 l5 l6 l7 σ
    unfold fc11_best_57
    refine s_iload hG dc11_best_57 rfl ?_
    refine s_bipush (v := 9) hG dc11_best_59 (by decide) ?_
    refine s_icmp_gt hG 140 dc11_best_61 (by decide) ?_ ?_
    · refine s_iinc (v := 1) hG dc11_best_140 rfl (by decide) (by decide) ?_
      refine s_goto hG 42 dc11_best_143 (by decide) ?_
      exact s_lv (lc rfl (lc rfl (lc rfl (lc rfl (lc rfl (lc rfl (lc rfl ln))))))) (hK42 _ _ _ _ _ _ _ _)
    · refine s_iload hG dc11_best_64 rfl ?_
      refine s_iload hG dc11_best_66 rfl ?_
      refine s_icmp_eq hG 134 dc11_best_68 (by decide) ?_ ?_
      · exact s_lv (lc rfl (lc rfl (lc rfl (lc rfl (lc rfl (lc rfl (lc rfl (lc rfl ln)))))))) (pc11_best_134 hG hK27 hK42 ih _ _ _ _ _ _ _ _ _)
      · refine s_aload_n hG dc11_best_71 rfl ?_
        refine s_getR hG kFc11_58 rfl dc11_best_72 (fun v72 => ?_)
        refine s_iload hG dc11_best_75 rfl ?_
        refine s_iload hG dc11_best_77 rfl ?_
        refine s_iload hG dc11_best_79 rfl ?_
        refine s_callVi hG kMc11_264 (fun a => corc2_isSale N a _ _ _ _) ⟨by decide, rfl⟩ rfl (by first | decide | omega) dc11_best_81 rfl rfl (Nat.le_of_ble_eq_true rfl) ⟨Nat.le_of_ble_eq_true rfl, Nat.le_of_ble_eq_true rfl⟩ (fun p81 => ?_)
        refine s_if_eq hG 134 dc11_best_84 (by decide) ?_ ?_
        · exact s_lv (lc rfl (lc rfl (lc rfl (lc rfl (lc rfl (lc rfl (lc rfl (lc rfl ln)))))))) (pc11_best_134 hG hK27 hK42 ih _ _ _ _ _ _ _ _ _)
        · refine s_aload_n hG dc11_best_87 rfl ?_
          refine s_iload hG dc11_best_88 rfl ?_
          refine s_iload hG dc11_best_90 rfl ?_
          refine s_iload hG dc11_best_92 rfl ?_
          refine s_iload_n hG dc11_best_94 rfl ?_
          refine s_callVv hG kMc11_358 (fun a => corc11_lookBehindSale N a _ _ _ _ _) ⟨by decide, rfl⟩ rfl (by first | decide | omega) dc11_best_95 rfl rfl (Nat.le_of_ble_eq_true rfl) ⟨Nat.le_of_ble_eq_true rfl, Nat.le_of_ble_eq_true rfl⟩ (fun p95 => ?_)
          refine s_aload_n hG dc11_best_98 rfl ?_
          refine s_getR hG kFc11_68 rfl dc11_best_99 (fun v99 => ?_)
          refine s_getI hG kFc11_322 rfl dc11_best_102 (fun v102 => ?_)
          refine s_iload hG dc11_best_105 rfl ?_
          refine s_icmp_le hG 134 dc11_best_107 (by decide) ?_ ?_
          · exact s_lv (lc rfl (lc rfl (lc rfl (lc rfl (lc rfl (lc rfl (lc rfl (lc rfl ln)))))))) (pc11_best_134 hG hK27 hK42 ih _ _ _ _ _ _ _ _ _)
          · refine s_aload_n hG dc11_best_110 rfl ?_
            refine s_getR hG kFc11_68 rfl dc11_best_111 (fun v111 => ?_)
            refine s_getI hG kFc11_322 rfl dc11_best_114 (fun v114 => ?_)
            refine s_istore hG dc11_best_117 (by decide) ?_
            refine s_bipush (v := 100) hG dc11_best_119 (by decide) ?_
            refine s_iload hG dc11_best_121 rfl ?_
            refine s_imul hG dc11_best_123 ?_
            refine s_bipush (v := 10) hG dc11_best_124 (by decide) ?_
            refine s_iload hG dc11_best_126 rfl ?_
            refine s_imul hG dc11_best_128 ?_
            refine s_iadd hG dc11_best_129 ?_
            refine s_iload hG dc11_best_130 rfl ?_
            refine s_iadd hG dc11_best_132 ?_
            refine s_istore_n hG dc11_best_133 (by decide) ?_
            exact s_lv (lc rfl (lc rfl (lc rfl (lc rfl (lc rfl (lc rfl (lc rfl (lc rfl ln)))))))) (pc11_best_134 hG hK27 hK42 ih _ _ _ _ _ _ _ _ _)
set_option maxRecDepth 20000 in
set_option maxHeartbeats 2000000 in
theorem pc11_best_42 {Ω : Om} {Γ : Ga} {N : Nat} (hG : Good Ω Γ tc11_best 7 0 0) {K27 : Option Nat → Int32 → Int32 → Int32 → Int32 → Int32 → Me → Option (Int32 × Me)} (hK27 : ∀ (l0 : Option Nat) (l1 : Int32) (l2 : Int32) (l3 : Int32) (l4 : Int32) (l5 : Int32) (σ : Me), Sim Ω Γ 0 0 ιI 8 27 [(0, vR l0), (1, vI l1), (2, vI l2), (3, vI l3), (4, vI l4), (5, vI l5)] [] σ 0 0 (K27 l0 l1 l2 l3 l4 l5 σ))  : ∀ (n : Nat) (l0 : Option Nat) (l1 : Int32) (l2 : Int32) (l3 : Int32) (l4 : Int32) (l5 : Int32) (l6 : Int32) (σ : Me), Sim Ω Γ 0 0 ιI 8 42 [(0, vR l0), (1, vI l1), (2, vI l2), (3, vI l3), (4, vI l4), (5, vI l5), (6, vI l6)] [] σ 0 0 (fc11_best_42 N K27 n l0 l1 l2 l3 l4 l5 l6 σ) := by
  intro n
  induction n with
  | zero => intros; exact s_none
  | succ n ih =>
    intro l0 l1 l2 l3 l4 l5 l6 σ
    unfold fc11_best_42
    refine s_iload hG dc11_best_42 rfl ?_
    refine s_aload_n hG dc11_best_44 rfl ?_
    refine s_getR hG kFc11_58 rfl dc11_best_45 (fun v45 => ?_)
    refine s_getI hG kFc11_154 rfl dc11_best_48 (fun v48 => ?_)
    refine s_icmp_ge hG 146 dc11_best_51 (by decide) ?_ ?_
    · refine s_iinc (v := 1) hG dc11_best_146 rfl (by decide) (by decide) ?_
      refine s_goto hG 27 dc11_best_149 (by decide) ?_
      exact s_lv (lc rfl (lc rfl (lc rfl (lc rfl (lc rfl (lc rfl ln)))))) (hK27 _ _ _ _ _ _ _)
    · refine s_iconst (v := 1) hG dc11_best_54 (by decide) ?_
      refine s_istore hG dc11_best_55 (by decide) ?_
      exact s_lv (lc rfl (lc rfl (lc rfl (lc rfl (lc rfl (lc rfl (lc rfl (lc rfl ln)))))))) (pc11_best_57 hG hK27 ih _ _ _ _ _ _ _ _ _ _)
set_option maxRecDepth 20000 in
set_option maxHeartbeats 2000000 in
theorem pc11_best_27 {Ω : Om} {Γ : Ga} {N : Nat} (hG : Good Ω Γ tc11_best 7 0 0)  : ∀ (n : Nat) (l0 : Option Nat) (l1 : Int32) (l2 : Int32) (l3 : Int32) (l4 : Int32) (l5 : Int32) (σ : Me), Sim Ω Γ 0 0 ιI 8 27 [(0, vR l0), (1, vI l1), (2, vI l2), (3, vI l3), (4, vI l4), (5, vI l5)] [] σ 0 0 (fc11_best_27 N n l0 l1 l2 l3 l4 l5 σ) := by
  intro n
  induction n with
  | zero => intros; exact s_none
  | succ n ih =>
    intro l0 l1 l2 l3 l4 l5 σ
    unfold fc11_best_27
    refine s_iload hG dc11_best_27 rfl ?_
    refine s_aload_n hG dc11_best_29 rfl ?_
    refine s_getR hG kFc11_58 rfl dc11_best_30 (fun v30 => ?_)
    refine s_getI hG kFc11_154 rfl dc11_best_33 (fun v33 => ?_)
    refine s_icmp_ge hG 152 dc11_best_36 (by decide) ?_ ?_
    · refine s_iload_n hG dc11_best_152 rfl ?_
      refine s_if_ne hG 160 dc11_best_153 (by decide) ?_ ?_
      · refine s_iload hG dc11_best_160 rfl ?_
        exact s_iret hG dc11_best_162 rfl (Nat.le_of_ble_eq_true rfl) (Nat.le_of_ble_eq_true rfl)
      · refine s_iload_n hG dc11_best_156 rfl ?_
        refine s_goto hG 162 dc11_best_157 (by decide) ?_
        exact s_iret hG dc11_best_162 rfl (Nat.le_of_ble_eq_true rfl) (Nat.le_of_ble_eq_true rfl)
    · refine s_iconst (v := 0) hG dc11_best_39 (by decide) ?_
      refine s_istore hG dc11_best_40 (by decide) ?_
      exact s_lv (lc rfl (lc rfl (lc rfl (lc rfl (lc rfl (lc rfl (lc rfl ln))))))) (pc11_best_42 hG ih _ _ _ _ _ _ _ _ _)
set_option maxRecDepth 20000 in
set_option maxHeartbeats 2000000 in
theorem corc11_best {Ω : Om} (N : Nat) (a0 : Nat) (x1 : Int32) (x2 : Int32) (σ : Me) : Cor Ω tc11_best 7 0 0 [vR (some a0), vI x1, vI x2] σ ιI (fc11_best N a0 x1 x2 σ) := by
  refine Cor.of (by decide +kernel) (Nat.le_of_ble_eq_true rfl) (fun Γ hG => ?_)
  unfold fc11_best
  show Sim Ω Γ 0 0 ιI 8 0 [(0, vR (some a0)), (1, vI x1), (2, vI x2)] [] σ 0 0 _
  refine s_aload_n hG dc11_best_0 rfl ?_
  refine s_iload_n hG dc11_best_1 rfl ?_
  refine s_callVi hG kMc11_251 (fun a => corc11_isSky N a _ _) ⟨by decide, rfl⟩ rfl (by first | decide | omega) dc11_best_2 rfl rfl (Nat.le_of_ble_eq_true rfl) ⟨Nat.le_of_ble_eq_true rfl, Nat.le_of_ble_eq_true rfl⟩ (fun p2 => ?_)
  refine s_if_eq hG 17 dc11_best_5 (by decide) ?_ ?_
  · refine s_iconst (v := -1) hG dc11_best_17 (by decide) ?_
    exact s_iret hG dc11_best_18 rfl (Nat.le_of_ble_eq_true rfl) (Nat.le_of_ble_eq_true rfl)
  · refine s_iload_n hG dc11_best_8 rfl ?_
    refine s_if_lt hG 17 dc11_best_9 (by decide) ?_ ?_
    · refine s_iconst (v := -1) hG dc11_best_17 (by decide) ?_
      exact s_iret hG dc11_best_18 rfl (Nat.le_of_ble_eq_true rfl) (Nat.le_of_ble_eq_true rfl)
    · refine s_iload_n hG dc11_best_12 rfl ?_
      refine s_iconst (v := 1) hG dc11_best_13 (by decide) ?_
      refine s_icmp_le hG 19 dc11_best_14 (by decide) ?_ ?_
      · refine s_iconst (v := -1) hG dc11_best_19 (by decide) ?_
        refine s_istore_n hG dc11_best_20 (by decide) ?_
        refine s_iconst (v := -1) hG dc11_best_21 (by decide) ?_
        refine s_istore hG dc11_best_22 (by decide) ?_
        refine s_iconst (v := 0) hG dc11_best_24 (by decide) ?_
        refine s_istore hG dc11_best_25 (by decide) ?_
        exact s_lv (lc rfl (lc rfl (lc rfl (lc rfl (lc rfl (lc rfl ln)))))) (pc11_best_27 hG _ _ _ _ _ _ _ _)
      · refine s_iconst (v := -1) hG dc11_best_17 (by decide) ?_
        exact s_iret hG dc11_best_18 rfl (Nat.le_of_ble_eq_true rfl) (Nat.le_of_ble_eq_true rfl)
