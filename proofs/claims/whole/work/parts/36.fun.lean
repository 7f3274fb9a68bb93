def fc12_withInterest (N : Nat) (a0 : Nat) (x1 : Int32) (σ : Me) : Option (Int32 × Me) :=
  (qR σ 12 18 (some a0)).bind fun v6 =>
  (ldI σ v6 (0 : Int32)).bind fun v10 =>
  (dvI (x1 * v10) (10 : Int32)).bind fun v14 =>
  (fMt_min N (999 : Int32) (x1 + v14) σ).bind fun p16 =>
  some (p16.1, p16.2)
set_option maxRecDepth 20000 in
set_option maxHeartbeats 2000000 in
theorem corc12_withInterest {Ω : Om} (N : Nat) (a0 : Nat) (x1 : Int32) (σ : Me) : Cor Ω tc12_withInterest 2 0 0 [vR (some a0), vI x1] σ ιI (fc12_withInterest N a0 x1 σ) := by
  refine Cor.of (by decide +kernel) (Nat.le_of_ble_eq_true rfl) (fun Γ hG => ?_)
  unfold fc12_withInterest
  show Sim Ω Γ 0 0 ιI 2 0 [(0, vR (some a0)), (1, vI x1)] [] σ 0 0 _
  refine s_sipush (v := 999) hG dc12_withInterest_0 (by decide) ?_
  refine s_iload_n hG dc12_withInterest_3 rfl ?_
  refine s_iload_n hG dc12_withInterest_4 rfl ?_
  refine s_aload_n hG dc12_withInterest_5 rfl ?_
  refine s_getR hG kFc12_37 rfl dc12_withInterest_6 (fun v6 => ?_)
  refine s_iconst (v := 0) hG dc12_withInterest_9 (by decide) ?_
  refine s_iald hG dc12_withInterest_10 (fun v10 => ?_)
  refine s_imul hG dc12_withInterest_11 ?_
  refine s_bipush (v := 10) hG dc12_withInterest_12 (by decide) ?_
  refine s_idiv hG dc12_withInterest_14 (fun v14 => ?_)
  refine s_iadd hG dc12_withInterest_15 ?_
  refine s_callSi hG kMc12_324 (corMt_min N _ _ _) rfl (by first | decide | omega) dc12_withInterest_16 rfl rfl (Nat.le_of_ble_eq_true rfl) ⟨Nat.le_of_ble_eq_true rfl, Nat.le_of_ble_eq_true rfl⟩ (fun p16 => ?_)
  exact s_iret hG dc12_withInterest_19 rfl (Nat.le_of_ble_eq_true rfl) (Nat.le_of_ble_eq_true rfl)
def fc12_goYear_392 (N : Nat) (l0 : Option Nat) (l1 : Option Nat) (l2 : Int32) (σ : Me) : Option (Unit × Me) :=
  (ldI σ l1 (26 : Int32)).bind fun v398 =>
  (stI σ l1 ((27 : Int32) + ((3 : Int32) * v398)) l2).bind fun σ407 =>
  (qI σ407 12 36 l0).bind fun v414 =>
  (stI σ407 l1 (((27 : Int32) + ((3 : Int32) * v398)) + (1 : Int32)) v414).bind fun σ417 =>
  (qI σ417 12 37 l0).bind fun v424 =>
  (stI σ417 l1 (((27 : Int32) + ((3 : Int32) * v398)) + (2 : Int32)) v424).bind fun σ427 =>
  (ldI σ427 l1 (26 : Int32)).bind fun v432 =>
  (stI σ427 l1 (26 : Int32) (v432 + (1 : Int32))).bind fun σ435 =>
  some ((), σ435)
def fc12_goYear_354 (N : Nat) : Nat → Option Nat → Option Nat → Int32 → Int32 → Me → Option (Unit × Me)
  | 0, _, _, _, _, _ => none
  | n + 1, l0, l1, l2, l6, σ =>
    if (177 : Int32) < l6 then
      (ldI σ l1 (26 : Int32)).bind fun v388 =>
      (stI σ l1 (26 : Int32) (v388 - (1 : Int32))).bind fun σ391 =>
      fc12_goYear_392 N l0 l1 l2 σ391
    else
      (ldI σ l1 (((26 : Int32) + l6) + (3 : Int32))).bind fun v376 =>
      (stI σ l1 ((26 : Int32) + l6) v376).bind fun σ377 =>
      (fc12_goYear_354 N n) l0 l1 l2 (l6 + (1 : Int32)) σ377
def fc12_goYear_328 (N : Nat) (K130 : Option Nat → Option Nat → Int32 → Int32 → Int32 → Me → Option (Unit × Me)) (l0 : Option Nat) (l1 : Option Nat) (l2 : Int32) (l3 : Int32) (l6 : Int32) (σ : Me) : Option (Unit × Me) :=
  K130 l0 l1 l2 l3 (l6 + (1 : Int32)) σ
def fc12_goYear_130 (N : Nat) : Nat → Option Nat → Option Nat → Int32 → Int32 → Int32 → Me → Option (Unit × Me)
  | 0, _, _, _, _, _, _ => none
  | n + 1, l0, l1, l2, l3, l6, σ =>
    (qI σ 12 24 l0).bind fun v133 =>
    if v133 ≤ l6 then
      (ldI σ l1 (25 : Int32)).bind fun v338 =>
      (stI σ l1 (25 : Int32) (v338 + (1 : Int32))).bind fun σ341 =>
      (ldI σ341 l1 (26 : Int32)).bind fun v345 =>
      if v345 = (60 : Int32) then
        fc12_goYear_354 N N l0 l1 l2 (1 : Int32) σ341
      else
        fc12_goYear_392 N l0 l1 l2 σ341
    else
      (ldI σ l1 (((4 : Int32) * l6) + (0 : Int32))).bind fun v159 =>
      (qR σ 12 34 l0).bind fun v161 =>
      (ldI σ v161 l6).bind fun v166 =>
      (fMt_min N (999 : Int32) ((v159 - v166) + l3) σ).bind fun p170 =>
      (fMt_max N (0 : Int32) p170.1 p170.2).bind fun p173 =>
      (stI p173.2 l1 (((4 : Int32) * l6) + (0 : Int32)) p173.1).bind fun σ176 =>
      (ldI σ176 l1 (((4 : Int32) * l6) + (2 : Int32))).bind fun v189 =>
      (qR σ176 12 34 l0).bind fun v191 =>
      (ldI σ176 v191 l6).bind fun v196 =>
      (fMt_min N (30 : Int32) (v189 + v196) σ176).bind fun p198 =>
      (stI p198.2 l1 (((4 : Int32) * l6) + (2 : Int32)) p198.1).bind fun σ201 =>
      (qR σ201 12 35 l0).bind fun v203 =>
      (stI σ201 v203 l6 (0 : Int32)).bind fun σ209 =>
      (qR σ209 12 34 l0).bind fun v211 =>
      (ldI σ209 v211 l6).bind fun v216 =>
      (qR σ209 12 18 l0).bind fun v218 =>
      (ldI σ209 v218 (1 : Int32)).bind fun v222 =>
      if v216 < v222 then
        (ldI σ209 l1 (((4 : Int32) * l6) + (1 : Int32))).bind fun v247 =>
        (ldI σ209 l1 (((4 : Int32) * l6) + (2 : Int32))).bind fun v253 =>
        (fMt_min N v247 v253 σ209).bind fun p254 =>
        (ldI p254.2 l1 (((4 : Int32) * l6) + (2 : Int32))).bind fun v265 =>
        (stI p254.2 l1 (((4 : Int32) * l6) + (2 : Int32)) (v265 - p254.1)).bind fun σ269 =>
        (qR σ269 12 35 l0).bind fun v271 =>
        (dr σ269 l0 (.inl 12)).bind fun a =>
        (fc12_value N a l6 σ269).bind fun p281 =>
        (stI p281.2 v271 l6 (p254.1 * p281.1)).bind fun σ285 =>
        (qI σ285 12 37 l0).bind fun v288 =>
        (qR σ285 12 35 l0).bind fun v292 =>
        (ldI σ285 v292 l6).bind fun v297 =>
        (pI σ285 12 37 l0 (v288 + v297)).bind fun σ299 =>
        (ldI σ299 l1 (((4 : Int32) * l6) + (3 : Int32))).bind fun v315 =>
        (qR σ299 12 35 l0).bind fun v317 =>
        (ldI σ299 v317 l6).bind fun v322 =>
        (fMt_min N (999 : Int32) (v315 + v322) σ299).bind fun p324 =>
        (stI p324.2 l1 (((4 : Int32) * l6) + (3 : Int32)) p324.1).bind fun σ327 =>
        fc12_goYear_328 N (fc12_goYear_130 N n) l0 l1 l2 l3 l6 σ327
      else
        (qI σ209 12 36 l0).bind fun v228 =>
        (pI σ209 12 36 l0 (v228 ||| ((1 : Int32) <<< (l6 &&& 31)))).bind fun σ236 =>
        fc12_goYear_328 N (fc12_goYear_130 N n) l0 l1 l2 l3 l6 σ236
def fc12_goYear_50 (N : Nat) : Nat → Option Nat → Option Nat → Int32 → Int32 → Int32 → Int32 → Int32 → Me → Option (Unit × Me)
  | 0, _, _, _, _, _, _, _, _ => none
  | n + 1, l0, l1, l2, l3, l4, l5, l6, σ =>
    (qI σ 12 24 l0).bind fun v53 =>
    if v53 ≤ l6 then
      (pI σ 12 36 l0 (0 : Int32)).bind fun σ119 =>
      (pI σ119 12 37 l0 (0 : Int32)).bind fun σ124 =>
      fc12_goYear_130 N N l0 l1 l2 l3 (0 : Int32) σ124
    else
      (dr σ l0 (.inl 12)).bind fun a =>
      (fc12_nextIn N a l1 l5 σ).bind fun p63 =>
      (qR p63.2 12 34 l0).bind fun v78 =>
      (dr p63.2 l0 (.inl 12)).bind fun a =>
      (fc12_paid N a l1 p63.1 l3 p63.2).bind fun p91 =>
      (fMt_min N l4 (l3 + p91.1) p91.2).bind fun p95 =>
      (stI p95.2 v78 p63.1 p95.1).bind fun σ98 =>
      (qR σ98 12 34 l0).bind fun v102 =>
      (ldI σ98 v102 p63.1).bind fun v107 =>
      (fc12_goYear_50 N n) l0 l1 l2 l3 (l4 - v107) (l5 ||| ((1 : Int32) <<< (p63.1 &&& 31))) (l6 + (1 : Int32)) σ98
def fc12_goYear_2 (N : Nat) : Nat → Option Nat → Option Nat → Int32 → Int32 → Me → Option (Unit × Me)
  | 0, _, _, _, _, _ => none
  | n + 1, l0, l1, l2, l3, σ =>
    (qI σ 12 24 l0).bind fun v4 =>
    if v4 ≤ l3 then
      (qI σ 12 24 l0).bind fun v36 =>
      (dvI l2 v36).bind fun v39 =>
      fc12_goYear_50 N N l0 l1 l2 v39 l2 (0 : Int32) (0 : Int32) σ
    else
      (ldI σ l1 (((4 : Int32) * l3) + (0 : Int32))).bind fun v23 =>
      (dr σ l0 (.inl 12)).bind fun a =>
      (fc12_withInterest N a v23 σ).bind fun p24 =>
      (stI p24.2 l1 (((4 : Int32) * l3) + (0 : Int32)) p24.1).bind fun σ27 =>
      (fc12_goYear_2 N n) l0 l1 l2 (l3 + (1 : Int32)) σ27
def fc12_goYear (N : Nat) (a0 : Nat) (x1 : Option Nat) (x2 : Int32) (σ : Me) : Option (Unit × Me) :=
  fc12_goYear_2 N N (some a0) x1 x2 (0 : Int32) σ
set_option maxRecDepth 20000 in
set_option maxHeartbeats 2000000 in
theorem pc12_goYear_392 {Ω : Om} {Γ : Ga} {N : Nat} (hG : Good Ω Γ tc12_goYear 141 0 0) (l0 : Option Nat) (l1 : Option Nat) (l2 : Int32) (σ : Me) : Sim Ω Γ 0 0 ιV 9 392 [(0, vR l0), (1, vR l1), (2, vI l2)] [] σ 0 0 (fc12_goYear_392 N l0 l1 l2 σ) := by
  unfold fc12_goYear_392
  refine s_bipush (v := 27) hG dc12_goYear_392 (by decide) ?_
  refine s_iconst (v := 3) hG dc12_goYear_394 (by decide) ?_
  refine s_aload_n hG dc12_goYear_395 rfl ?_
  refine s_bipush (v := 26) hG dc12_goYear_396 (by decide) ?_
  refine s_iald hG dc12_goYear_398 (fun v398 => ?_)
  refine s_imul hG dc12_goYear_399 ?_
  refine s_iadd hG dc12_goYear_400 ?_
  refine s_istore hG dc12_goYear_401 (by decide) ?_
  refine s_aload_n hG dc12_goYear_403 rfl ?_
  refine s_iload hG dc12_goYear_404 rfl ?_
  refine s_iload_n hG dc12_goYear_406 rfl ?_
  refine s_iast hG dc12_goYear_407 (fun σ407 => ?_)
  refine s_aload_n hG dc12_goYear_408 rfl ?_
  refine s_iload hG dc12_goYear_409 rfl ?_
  refine s_iconst (v := 1) hG dc12_goYear_411 (by decide) ?_
  refine s_iadd hG dc12_goYear_412 ?_
  refine s_aload_n hG dc12_goYear_413 rfl ?_
  refine s_getI hG kFc12_339 rfl dc12_goYear_414 (fun v414 => ?_)
  refine s_iast hG dc12_goYear_417 (fun σ417 => ?_)
  refine s_aload_n hG dc12_goYear_418 rfl ?_
  refine s_iload hG dc12_goYear_419 rfl ?_
  refine s_iconst (v := 2) hG dc12_goYear_421 (by decide) ?_
  refine s_iadd hG dc12_goYear_422 ?_
  refine s_aload_n hG dc12_goYear_423 rfl ?_
  refine s_getI hG kFc12_342 rfl dc12_goYear_424 (fun v424 => ?_)
  refine s_iast hG dc12_goYear_427 (fun σ427 => ?_)
  refine s_aload_n hG dc12_goYear_428 rfl ?_
  refine s_bipush (v := 26) hG dc12_goYear_429 (by decide) ?_
  refine s_dup2 hG dc12_goYear_431 rfl rfl ?_
  refine s_iald hG dc12_goYear_432 (fun v432 => ?_)
  refine s_iconst (v := 1) hG dc12_goYear_433 (by decide) ?_
  refine s_iadd hG dc12_goYear_434 ?_
  refine s_iast hG dc12_goYear_435 (fun σ435 => ?_)
  exact s_vret hG dc12_goYear_436 rfl (Nat.le_of_ble_eq_true rfl) (Nat.le_of_ble_eq_true rfl)
set_option maxRecDepth 20000 in
set_option maxHeartbeats 2000000 in
theorem pc12_goYear_354 {Ω : Om} {Γ : Ga} {N : Nat} (hG : Good Ω Γ tc12_goYear 141 0 0)  : ∀ (n : Nat) (l0 : Option Nat) (l1 : Option Nat) (l2 : Int32) (l6 : Int32) (σ : Me), Sim Ω Γ 0 0 ιV 9 354 [(0, vR l0), (1, vR l1), (2, vI l2), (6, vI l6)] [] σ 0 0 (fc12_goYear_354 N n l0 l1 l2 l6 σ) := by
  intro n
  induction n with
  | zero => intros; exact s_none
  | succ n ih =>
    intro l0 l1 l2 l6 σ
    unfold fc12_goYear_354
    refine s_iload hG dc12_goYear_354 rfl ?_
    refine s_sipush (v := 177) hG dc12_goYear_356 (by decide) ?_
    refine s_icmp_gt hG 384 dc12_goYear_359 (by decide) ?_ ?_
    · refine s_aload_n hG dc12_goYear_384 rfl ?_
      refine s_bipush (v := 26) hG dc12_goYear_385 (by decide) ?_
      refine s_dup2 hG dc12_goYear_387 rfl rfl ?_
      refine s_iald hG dc12_goYear_388 (fun v388 => ?_)
      refine s_iconst (v := 1) hG dc12_goYear_389 (by decide) ?_
      refine s_isub hG dc12_goYear_390 ?_
      refine s_iast hG dc12_goYear_391 (fun σ391 => ?_)
      exact s_lv (lc rfl (lc rfl (lc rfl ln))) (pc12_goYear_392 hG _ _ _ _)
    · refine s_aload_n hG dc12_goYear_362 rfl ?_
      refine s_bipush (v := 26) hG dc12_goYear_363 (by decide) ?_
      refine s_iload hG dc12_goYear_365 rfl ?_
      refine s_iadd hG dc12_goYear_367 ?_
      refine s_aload_n hG dc12_goYear_368 rfl ?_
      refine s_bipush (v := 26) hG dc12_goYear_369 (by decide) ?_
      refine s_iload hG dc12_goYear_371 rfl ?_
      refine s_iadd hG dc12_goYear_373 ?_
      refine s_iconst (v := 3) hG dc12_goYear_374 (by decide) ?_
      refine s_iadd hG dc12_goYear_375 ?_
      refine s_iald hG dc12_goYear_376 (fun v376 => ?_)
      refine s_iast hG dc12_goYear_377 (fun σ377 => ?_)
      refine s_iinc (v := 1) hG dc12_goYear_378 rfl (by decide) (by decide) ?_
      refine s_goto hG 354 dc12_goYear_381 (by decide) ?_
      exact s_lv (lc rfl (lc rfl (lc rfl (lc rfl ln)))) (ih _ _ _ _ _)
set_option maxRecDepth 20000 in
set_option maxHeartbeats 2000000 in
theorem pc12_goYear_328 {Ω : Om} {Γ : Ga} {N : Nat} (hG : Good Ω Γ tc12_goYear 141 0 0) {K130 : Option Nat → Option Nat → Int32 → Int32 → Int32 → Me → Option (Unit × Me)} (hK130 : ∀ (l0 : Option Nat) (l1 : Option Nat) (l2 : Int32) (l3 : Int32) (l6 : Int32) (σ : Me), Sim Ω Γ 0 0 ιV 9 130 [(0, vR l0), (1, vR l1), (2, vI l2), (3, vI l3), (6, vI l6)] [] σ 0 0 (K130 l0 l1 l2 l3 l6 σ)) (l0 : Option Nat) (l1 : Option Nat) (l2 : Int32) (l3 : Int32) (l6 : Int32) (σ : Me) : Sim Ω Γ 0 0 ιV 9 328 [(0, vR l0), (1, vR l1), (2, vI l2), (3, vI l3), (6, vI l6)] [] σ 0 0 (fc12_goYear_328 N K130 l0 l1 l2 l3 l6 σ) := by
  unfold fc12_goYear_328
  refine s_iinc (v := 1) hG dc12_goYear_328 rfl (by decide) (by decide) ?_
  refine s_goto hG 130 dc12_goYear_331 (by decide) ?_
  exact s_lv (lc rfl (lc rfl (lc rfl (lc rfl (lc rfl ln))))) (hK130 _ _ _ _ _ _)
set_option maxRecDepth 20000 in
set_option maxHeartbeats 2000000 in
theorem pc12_goYear_130 {Ω : Om} {Γ : Ga} {N : Nat} (hG : Good Ω Γ tc12_goYear 141 0 0)  : ∀ (n : Nat) (l0 : Option Nat) (l1 : Option Nat) (l2 : Int32) (l3 : Int32) (l6 : Int32) (σ : Me), Sim Ω Γ 0 0 ιV 9 130 [(0, vR l0), (1, vR l1), (2, vI l2), (3, vI l3), (6, vI l6)] [] σ 0 0 (fc12_goYear_130 N n l0 l1 l2 l3 l6 σ) := by
  intro n
  induction n with
  | zero => intros; exact s_none
  | succ n ih =>
    intro l0 l1 l2 l3 l6 σ
    unfold fc12_goYear_130
    refine s_iload hG dc12_goYear_130 rfl ?_
    refine s_aload_n hG dc12_goYear_132 rfl ?_
    refine s_getI hG kFc12_290 rfl dc12_goYear_133 (fun v133 => ?_)
    refine s_icmp_ge hG 334 dc12_goYear_136 (by decide) ?_ ?_
    · refine s_aload_n hG dc12_goYear_334 rfl ?_
      refine s_bipush (v := 25) hG dc12_goYear_335 (by decide) ?_
      refine s_dup2 hG dc12_goYear_337 rfl rfl ?_
      refine s_iald hG dc12_goYear_338 (fun v338 => ?_)
      refine s_iconst (v := 1) hG dc12_goYear_339 (by decide) ?_
      refine s_iadd hG dc12_goYear_340 ?_
      refine s_iast hG dc12_goYear_341 (fun σ341 => ?_)
      refine s_aload_n hG dc12_goYear_342 rfl ?_
      refine s_bipush (v := 26) hG dc12_goYear_343 (by decide) ?_
      refine s_iald hG dc12_goYear_345 (fun v345 => ?_)
      refine s_bipush (v := 60) hG dc12_goYear_346 (by decide) ?_
      refine s_icmp_ne hG 392 dc12_goYear_348 (by decide) ?_ ?_
      · exact s_lv (lc rfl (lc rfl (lc rfl ln))) (pc12_goYear_392 hG _ _ _ _)
      · refine s_iconst (v := 1) hG dc12_goYear_351 (by decide) ?_
        refine s_istore hG dc12_goYear_352 (by decide) ?_
        exact s_lv (lc rfl (lc rfl (lc rfl (lc rfl ln)))) (pc12_goYear_354 hG _ _ _ _ _ _)
    · refine s_iconst (v := 4) hG dc12_goYear_139 (by decide) ?_
      refine s_iload hG dc12_goYear_140 rfl ?_
      refine s_imul hG dc12_goYear_142 ?_
      refine s_istore hG dc12_goYear_143 (by decide) ?_
      refine s_aload_n hG dc12_goYear_145 rfl ?_
      refine s_iload hG dc12_goYear_146 rfl ?_
      refine s_iconst (v := 0) hG dc12_goYear_148 (by decide) ?_
      refine s_iadd hG dc12_goYear_149 ?_
      refine s_iconst (v := 0) hG dc12_goYear_150 (by decide) ?_
      refine s_sipush (v := 999) hG dc12_goYear_151 (by decide) ?_
      refine s_aload_n hG dc12_goYear_154 rfl ?_
      refine s_iload hG dc12_goYear_155 rfl ?_
      refine s_iconst (v := 0) hG dc12_goYear_157 (by decide) ?_
      refine s_iadd hG dc12_goYear_158 ?_
      refine s_iald hG dc12_goYear_159 (fun v159 => ?_)
      refine s_aload_n hG dc12_goYear_160 rfl ?_
      refine s_getR hG kFc12_72 rfl dc12_goYear_161 (fun v161 => ?_)
      refine s_iload hG dc12_goYear_164 rfl ?_
      refine s_iald hG dc12_goYear_166 (fun v166 => ?_)
      refine s_isub hG dc12_goYear_167 ?_
      refine s_iload_n hG dc12_goYear_168 rfl ?_
      refine s_iadd hG dc12_goYear_169 ?_
      refine s_callSi hG kMc12_324 (corMt_min N _ _ _) rfl (by first | decide | omega) dc12_goYear_170 rfl rfl (Nat.le_of_ble_eq_true rfl) ⟨Nat.le_of_ble_eq_true rfl, Nat.le_of_ble_eq_true rfl⟩ (fun p170 => ?_)
      refine s_callSi hG kMc12_326 (corMt_max N _ _ _) rfl (by first | decide | omega) dc12_goYear_173 rfl rfl (Nat.le_of_ble_eq_true rfl) ⟨Nat.le_of_ble_eq_true rfl, Nat.le_of_ble_eq_true rfl⟩ (fun p173 => ?_)
      refine s_iast hG dc12_goYear_176 (fun σ176 => ?_)
      refine s_aload_n hG dc12_goYear_177 rfl ?_
      refine s_iload hG dc12_goYear_178 rfl ?_
      refine s_iconst (v := 2) hG dc12_goYear_180 (by decide) ?_
      refine s_iadd hG dc12_goYear_181 ?_
      refine s_bipush (v := 30) hG dc12_goYear_182 (by decide) ?_
      refine s_aload_n hG dc12_goYear_184 rfl ?_
      refine s_iload hG dc12_goYear_185 rfl ?_
      refine s_iconst (v := 2) hG dc12_goYear_187 (by decide) ?_
      refine s_iadd hG dc12_goYear_188 ?_
      refine s_iald hG dc12_goYear_189 (fun v189 => ?_)
      refine s_aload_n hG dc12_goYear_190 rfl ?_
      refine s_getR hG kFc12_72 rfl dc12_goYear_191 (fun v191 => ?_)
      refine s_iload hG dc12_goYear_194 rfl ?_
      refine s_iald hG dc12_goYear_196 (fun v196 => ?_)
      refine s_iadd hG dc12_goYear_197 ?_
      refine s_callSi hG kMc12_324 (corMt_min N _ _ _) rfl (by first | decide | omega) dc12_goYear_198 rfl rfl (Nat.le_of_ble_eq_true rfl) ⟨Nat.le_of_ble_eq_true rfl, Nat.le_of_ble_eq_true rfl⟩ (fun p198 => ?_)
      refine s_iast hG dc12_goYear_201 (fun σ201 => ?_)
      refine s_aload_n hG dc12_goYear_202 rfl ?_
      refine s_getR hG kFc12_75 rfl dc12_goYear_203 (fun v203 => ?_)
      refine s_iload hG dc12_goYear_206 rfl ?_
      refine s_iconst (v := 0) hG dc12_goYear_208 (by decide) ?_
      refine s_iast hG dc12_goYear_209 (fun σ209 => ?_)
      refine s_aload_n hG dc12_goYear_210 rfl ?_
      refine s_getR hG kFc12_72 rfl dc12_goYear_211 (fun v211 => ?_)
      refine s_iload hG dc12_goYear_214 rfl ?_
      refine s_iald hG dc12_goYear_216 (fun v216 => ?_)
      refine s_aload_n hG dc12_goYear_217 rfl ?_
      refine s_getR hG kFc12_37 rfl dc12_goYear_218 (fun v218 => ?_)
      refine s_iconst (v := 1) hG dc12_goYear_221 (by decide) ?_
      refine s_iald hG dc12_goYear_222 (fun v222 => ?_)
      refine s_icmp_lt hG 242 dc12_goYear_223 (by decide) ?_ ?_
      · refine s_aload_n hG dc12_goYear_242 rfl ?_
        refine s_iload hG dc12_goYear_243 rfl ?_
        refine s_iconst (v := 1) hG dc12_goYear_245 (by decide) ?_
        refine s_iadd hG dc12_goYear_246 ?_
        refine s_iald hG dc12_goYear_247 (fun v247 => ?_)
        refine s_aload_n hG dc12_goYear_248 rfl ?_
        refine s_iload hG dc12_goYear_249 rfl ?_
        refine s_iconst (v := 2) hG dc12_goYear_251 (by decide) ?_
        refine s_iadd hG dc12_goYear_252 ?_
        refine s_iald hG dc12_goYear_253 (fun v253 => ?_)
        refine s_callSi hG kMc12_324 (corMt_min N _ _ _) rfl (by first | decide | omega) dc12_goYear_254 rfl rfl (Nat.le_of_ble_eq_true rfl) ⟨Nat.le_of_ble_eq_true rfl, Nat.le_of_ble_eq_true rfl⟩ (fun p254 => ?_)
        refine s_istore hG dc12_goYear_257 (by decide) ?_
        refine s_aload_n hG dc12_goYear_259 rfl ?_
        refine s_iload hG dc12_goYear_260 rfl ?_
        refine s_iconst (v := 2) hG dc12_goYear_262 (by decide) ?_
        refine s_iadd hG dc12_goYear_263 ?_
        refine s_dup2 hG dc12_goYear_264 rfl rfl ?_
        refine s_iald hG dc12_goYear_265 (fun v265 => ?_)
        refine s_iload hG dc12_goYear_266 rfl ?_
        refine s_isub hG dc12_goYear_268 ?_
        refine s_iast hG dc12_goYear_269 (fun σ269 => ?_)
        refine s_aload_n hG dc12_goYear_270 rfl ?_
        refine s_getR hG kFc12_75 rfl dc12_goYear_271 (fun v271 => ?_)
        refine s_iload hG dc12_goYear_274 rfl ?_
        refine s_iload hG dc12_goYear_276 rfl ?_
        refine s_aload_n hG dc12_goYear_278 rfl ?_
        refine s_iload hG dc12_goYear_279 rfl ?_
        refine s_callVi hG kMc12_318 (fun a => corc12_value N a _ _) ⟨by decide, rfl⟩ rfl (by first | decide | omega) dc12_goYear_281 rfl rfl (Nat.le_of_ble_eq_true rfl) ⟨Nat.le_of_ble_eq_true rfl, Nat.le_of_ble_eq_true rfl⟩ (fun p281 => ?_)
        refine s_imul hG dc12_goYear_284 ?_
        refine s_iast hG dc12_goYear_285 (fun σ285 => ?_)
        refine s_aload_n hG dc12_goYear_286 rfl ?_
        refine s_dup hG dc12_goYear_287 rfl ?_
        refine s_getI hG kFc12_342 rfl dc12_goYear_288 (fun v288 => ?_)
        refine s_aload_n hG dc12_goYear_291 rfl ?_
        refine s_getR hG kFc12_75 rfl dc12_goYear_292 (fun v292 => ?_)
        refine s_iload hG dc12_goYear_295 rfl ?_
        refine s_iald hG dc12_goYear_297 (fun v297 => ?_)
        refine s_iadd hG dc12_goYear_298 ?_
        refine s_putI (fin := false) hG kFc12_342 rfl (fun h => by cases h) rfl (fun _ => rfl) (fun _ => rfl) dc12_goYear_299 (fun σ299 => ?_)
        refine s_aload_n hG dc12_goYear_302 rfl ?_
        refine s_iload hG dc12_goYear_303 rfl ?_
        refine s_iconst (v := 3) hG dc12_goYear_305 (by decide) ?_
        refine s_iadd hG dc12_goYear_306 ?_
        refine s_sipush (v := 999) hG dc12_goYear_307 (by decide) ?_
        refine s_aload_n hG dc12_goYear_310 rfl ?_
        refine s_iload hG dc12_goYear_311 rfl ?_
        refine s_iconst (v := 3) hG dc12_goYear_313 (by decide) ?_
        refine s_iadd hG dc12_goYear_314 ?_
        refine s_iald hG dc12_goYear_315 (fun v315 => ?_)
        refine s_aload_n hG dc12_goYear_316 rfl ?_
        refine s_getR hG kFc12_75 rfl dc12_goYear_317 (fun v317 => ?_)
        refine s_iload hG dc12_goYear_320 rfl ?_
        refine s_iald hG dc12_goYear_322 (fun v322 => ?_)
        refine s_iadd hG dc12_goYear_323 ?_
        refine s_callSi hG kMc12_324 (corMt_min N _ _ _) rfl (by first | decide | omega) dc12_goYear_324 rfl rfl (Nat.le_of_ble_eq_true rfl) ⟨Nat.le_of_ble_eq_true rfl, Nat.le_of_ble_eq_true rfl⟩ (fun p324 => ?_)
        refine s_iast hG dc12_goYear_327 (fun σ327 => ?_)
        exact s_lv (lc rfl (lc rfl (lc rfl (lc rfl (lc rfl ln))))) (pc12_goYear_328 hG ih _ _ _ _ _ _)
      · refine s_aload_n hG dc12_goYear_226 rfl ?_
        refine s_dup hG dc12_goYear_227 rfl ?_
        refine s_getI hG kFc12_339 rfl dc12_goYear_228 (fun v228 => ?_)
        refine s_iconst (v := 1) hG dc12_goYear_231 (by decide) ?_
        refine s_iload hG dc12_goYear_232 rfl ?_
        refine s_ishl hG dc12_goYear_234 ?_
        refine s_ior hG dc12_goYear_235 ?_
        refine s_putI (fin := false) hG kFc12_339 rfl (fun h => by cases h) rfl (fun _ => rfl) (fun _ => rfl) dc12_goYear_236 (fun σ236 => ?_)
        refine s_goto hG 328 dc12_goYear_239 (by decide) ?_
        exact s_lv (lc rfl (lc rfl (lc rfl (lc rfl (lc rfl ln))))) (pc12_goYear_328 hG ih _ _ _ _ _ _)
set_option maxRecDepth 20000 in
set_option maxHeartbeats 2000000 in
theorem pc12_goYear_50 {Ω : Om} {Γ : Ga} {N : Nat} (hG : Good Ω Γ tc12_goYear 141 0 0)  : ∀ (n : Nat) (l0 : Option Nat) (l1 : Option Nat) (l2 : Int32) (l3 : Int32) (l4 : Int32) (l5 : Int32) (l6 : Int32) (σ : Me), Sim Ω Γ 0 0 ιV 9 50 [(0, vR l0), (1, vR l1), (2, vI l2), (3, vI l3), (4, vI l4), (5, vI l5), (6, vI l6)] [] σ 0 0 (fc12_goYear_50 N n l0 l1 l2 l3 l4 l5 l6 σ) := by
  intro n
  induction n with
  | zero => intros; exact s_none
  | succ n ih =>
    intro l0 l1 l2 l3 l4 l5 l6 σ
    unfold fc12_goYear_50
    refine s_iload hG dc12_goYear_50 rfl ?_
    refine s_aload_n hG dc12_goYear_52 rfl ?_
    refine s_getI hG kFc12_290 rfl dc12_goYear_53 (fun v53 => ?_)
    refine s_icmp_ge hG 117 dc12_goYear_56 (by decide) ?_ ?_
    · refine s_aload_n hG dc12_goYear_117 rfl ?_
      refine s_iconst (v := 0) hG dc12_goYear_118 (by decide) ?_
      refine s_putI (fin := false) hG kFc12_339 rfl (fun h => by cases h) rfl (fun _ => rfl) (fun _ => rfl) dc12_goYear_119 (fun σ119 => ?_)
      refine s_aload_n hG dc12_goYear_122 rfl ?_
      refine s_iconst (v := 0) hG dc12_goYear_123 (by decide) ?_
      refine s_putI (fin := false) hG kFc12_342 rfl (fun h => by cases h) rfl (fun _ => rfl) (fun _ => rfl) dc12_goYear_124 (fun σ124 => ?_)
      refine s_iconst (v := 0) hG dc12_goYear_127 (by decide) ?_
      refine s_istore hG dc12_goYear_128 (by decide) ?_
      exact s_lv (lc rfl (lc rfl (lc rfl (lc rfl (lc rfl ln))))) (pc12_goYear_130 hG _ _ _ _ _ _ _)
    · refine s_aload_n hG dc12_goYear_59 rfl ?_
      refine s_aload_n hG dc12_goYear_60 rfl ?_
      refine s_iload hG dc12_goYear_61 rfl ?_
      refine s_callVi hG kMc12_331 (fun a => corc12_nextIn N a _ _ _) ⟨by decide, rfl⟩ rfl (by first | decide | omega) dc12_goYear_63 rfl rfl (Nat.le_of_ble_eq_true rfl) ⟨Nat.le_of_ble_eq_true rfl, Nat.le_of_ble_eq_true rfl⟩ (fun p63 => ?_)
      refine s_istore hG dc12_goYear_66 (by decide) ?_
      refine s_iload hG dc12_goYear_68 rfl ?_
      refine s_iconst (v := 1) hG dc12_goYear_70 (by decide) ?_
      refine s_iload hG dc12_goYear_71 rfl ?_
      refine s_ishl hG dc12_goYear_73 ?_
      refine s_ior hG dc12_goYear_74 ?_
      refine s_istore hG dc12_goYear_75 (by decide) ?_
      refine s_aload_n hG dc12_goYear_77 rfl ?_
      refine s_getR hG kFc12_72 rfl dc12_goYear_78 (fun v78 => ?_)
      refine s_iload hG dc12_goYear_81 rfl ?_
      refine s_iload hG dc12_goYear_83 rfl ?_
      refine s_iload_n hG dc12_goYear_85 rfl ?_
      refine s_aload_n hG dc12_goYear_86 rfl ?_
      refine s_aload_n hG dc12_goYear_87 rfl ?_
      refine s_iload hG dc12_goYear_88 rfl ?_
      refine s_iload_n hG dc12_goYear_90 rfl ?_
      refine s_callVi hG kMc12_335 (fun a => corc12_paid N a _ _ _ _) ⟨by decide, rfl⟩ rfl (by first | decide | omega) dc12_goYear_91 rfl rfl (Nat.le_of_ble_eq_true rfl) ⟨Nat.le_of_ble_eq_true rfl, Nat.le_of_ble_eq_true rfl⟩ (fun p91 => ?_)
      refine s_iadd hG dc12_goYear_94 ?_
      refine s_callSi hG kMc12_324 (corMt_min N _ _ _) rfl (by first | decide | omega) dc12_goYear_95 rfl rfl (Nat.le_of_ble_eq_true rfl) ⟨Nat.le_of_ble_eq_true rfl, Nat.le_of_ble_eq_true rfl⟩ (fun p95 => ?_)
      refine s_iast hG dc12_goYear_98 (fun σ98 => ?_)
      refine s_iload hG dc12_goYear_99 rfl ?_
      refine s_aload_n hG dc12_goYear_101 rfl ?_
      refine s_getR hG kFc12_72 rfl dc12_goYear_102 (fun v102 => ?_)
      refine s_iload hG dc12_goYear_105 rfl ?_
      refine s_iald hG dc12_goYear_107 (fun v107 => ?_)
      refine s_isub hG dc12_goYear_108 ?_
      refine s_istore hG dc12_goYear_109 (by decide) ?_
      refine s_iinc (v := 1) hG dc12_goYear_111 rfl (by decide) (by decide) ?_
      refine s_goto hG 50 dc12_goYear_114 (by decide) ?_
      exact s_lv (lc rfl (lc rfl (lc rfl (lc rfl (lc rfl (lc rfl (lc rfl ln))))))) (ih _ _ _ _ _ _ _ _)
set_option maxRecDepth 20000 in
set_option maxHeartbeats 2000000 in
theorem pc12_goYear_2 {Ω : Om} {Γ : Ga} {N : Nat} (hG : Good Ω Γ tc12_goYear 141 0 0)  : ∀ (n : Nat) (l0 : Option Nat) (l1 : Option Nat) (l2 : Int32) (l3 : Int32) (σ : Me), Sim Ω Γ 0 0 ιV 9 2 [(0, vR l0), (1, vR l1), (2, vI l2), (3, vI l3)] [] σ 0 0 (fc12_goYear_2 N n l0 l1 l2 l3 σ) := by
  intro n
  induction n with
  | zero => intros; exact s_none
  | succ n ih =>
    intro l0 l1 l2 l3 σ
    unfold fc12_goYear_2
    refine s_iload_n hG dc12_goYear_2 rfl ?_
    refine s_aload_n hG dc12_goYear_3 rfl ?_
    refine s_getI hG kFc12_290 rfl dc12_goYear_4 (fun v4 => ?_)
    refine s_icmp_ge hG 34 dc12_goYear_7 (by decide) ?_ ?_
    · refine s_iload_n hG dc12_goYear_34 rfl ?_
      refine s_aload_n hG dc12_goYear_35 rfl ?_
      refine s_getI hG kFc12_290 rfl dc12_goYear_36 (fun v36 => ?_)
      refine s_idiv hG dc12_goYear_39 (fun v39 => ?_)
      refine s_istore_n hG dc12_goYear_40 (by decide) ?_
      refine s_iload_n hG dc12_goYear_41 rfl ?_
      refine s_istore hG dc12_goYear_42 (by decide) ?_
      refine s_iconst (v := 0) hG dc12_goYear_44 (by decide) ?_
      refine s_istore hG dc12_goYear_45 (by decide) ?_
      refine s_iconst (v := 0) hG dc12_goYear_47 (by decide) ?_
      refine s_istore hG dc12_goYear_48 (by decide) ?_
      exact s_lv (lc rfl (lc rfl (lc rfl (lc rfl (lc rfl (lc rfl (lc rfl ln))))))) (pc12_goYear_50 hG _ _ _ _ _ _ _ _ _)
    · refine s_aload_n hG dc12_goYear_10 rfl ?_
      refine s_iconst (v := 4) hG dc12_goYear_11 (by decide) ?_
      refine s_iload_n hG dc12_goYear_12 rfl ?_
      refine s_imul hG dc12_goYear_13 ?_
      refine s_iconst (v := 0) hG dc12_goYear_14 (by decide) ?_
      refine s_iadd hG dc12_goYear_15 ?_
      refine s_aload_n hG dc12_goYear_16 rfl ?_
      refine s_aload_n hG dc12_goYear_17 rfl ?_
      refine s_iconst (v := 4) hG dc12_goYear_18 (by decide) ?_
      refine s_iload_n hG dc12_goYear_19 rfl ?_
      refine s_imul hG dc12_goYear_20 ?_
      refine s_iconst (v := 0) hG dc12_goYear_21 (by decide) ?_
      refine s_iadd hG dc12_goYear_22 ?_
      refine s_iald hG dc12_goYear_23 (fun v23 => ?_)
      refine s_callVi hG kMc12_328 (fun a => corc12_withInterest N a _ _) ⟨by decide, rfl⟩ rfl (by first | decide | omega) dc12_goYear_24 rfl rfl (Nat.le_of_ble_eq_true rfl) ⟨Nat.le_of_ble_eq_true rfl, Nat.le_of_ble_eq_true rfl⟩ (fun p24 => ?_)
      refine s_iast hG dc12_goYear_27 (fun σ27 => ?_)
      refine s_iinc (v := 1) hG dc12_goYear_28 rfl (by decide) (by decide) ?_
      refine s_goto hG 2 dc12_goYear_31 (by decide) ?_
      exact s_lv (lc rfl (lc rfl (lc rfl (lc rfl ln)))) (ih _ _ _ _ _)
set_option maxRecDepth 20000 in
set_option maxHeartbeats 2000000 in
theorem corc12_goYear {Ω : Om} (N : Nat) (a0 : Nat) (x1 : Option Nat) (x2 : Int32) (σ : Me) : Cor Ω tc12_goYear 141 0 0 [vR (some a0), vR x1, vI x2] σ ιV (fc12_goYear N a0 x1 x2 σ) := by
  refine Cor.of (by decide +kernel) (Nat.le_of_ble_eq_true rfl) (fun Γ hG => ?_)
  unfold fc12_goYear
  show Sim Ω Γ 0 0 ιV 9 0 [(0, vR (some a0)), (1, vR x1), (2, vI x2)] [] σ 0 0 _
  refine s_iconst (v := 0) hG dc12_goYear_0 (by decide) ?_
  refine s_istore_n hG dc12_goYear_1 (by decide) ?_
  exact s_lv (lc rfl (lc rfl (lc rfl (lc rfl ln)))) (pc12_goYear_2 hG _ _ _ _ _ _)
def fc12_isRain (N : Nat) (x0 : Int32) (σ : Me) : Option (Int32 × Me) :=
  (fc12_isIn N (Int32.toInt64 x0) (0 : Int64) (99 : Int64) σ).bind fun p6 =>
  retZ p6.1 p6.2
set_option maxRecDepth 20000 in
set_option maxHeartbeats 2000000 in
theorem corc12_isRain {Ω : Om} (N : Nat) (x0 : Int32) (σ : Me) : Cor Ω tc12_isRain 2 0 0 [vI x0] σ ιI (fc12_isRain N x0 σ) := by
  refine Cor.of (by decide +kernel) (Nat.le_of_ble_eq_true rfl) (fun Γ hG => ?_)
  unfold fc12_isRain
  show Sim Ω Γ 0 0 ιI 1 0 [(0, vI x0)] [] σ 0 0 _
  refine s_iload_n hG dc12_isRain_0 rfl ?_
  refine s_i2l hG dc12_isRain_1 ?_
  refine s_lconst (v := 0) hG dc12_isRain_2 (by decide) ?_
  refine s_ldc2 hG dc12_isRain_3 kJc12_302 ?_
  refine s_callSi hG kMc12_221 (corc12_isIn N _ _ _ _) rfl (by first | decide | omega) dc12_isRain_6 rfl rfl (Nat.le_of_ble_eq_true rfl) ⟨Nat.le_of_ble_eq_true rfl, Nat.le_of_ble_eq_true rfl⟩ (fun p6 => ?_)
  exact s_zret hG dc12_isRain_9 rfl (Nat.le_of_ble_eq_true rfl) (Nat.le_of_ble_eq_true rfl)
def fc12_remember_52 (N : Nat) : Nat → Option Nat → Int32 → Me → Option (Unit × Me)
  | 0, _, _, _ => none
  | n + 1, l0, l1, σ =>
    if (207 : Int32) ≤ l1 then
      (qI σ 12 39 l0).bind fun v88 =>
      (pI σ 12 39 l0 (v88 + (1 : Int32))).bind fun σ93 =>
      some ((), σ93)
    else
      (qR σ 12 38 l0).bind fun v60 =>
      (qI σ 12 39 l0).bind fun v67 =>
      (qR σ 12 28 l0).bind fun v74 =>
      (ldI σ v74 l1).bind fun v78 =>
      (stI σ v60 (((207 : Int32) * v67) + l1) v78).bind fun σ79 =>
      (fc12_remember_52 N n) l0 (l1 + (1 : Int32)) σ79
def fc12_remember_50 (N : Nat) (l0 : Option Nat) (σ : Me) : Option (Unit × Me) :=
  fc12_remember_52 N N l0 (0 : Int32) σ
def fc12_remember_11 (N : Nat) : Nat → Option Nat → Int32 → Me → Option (Unit × Me)
  | 0, _, _, _ => none
  | n + 1, l0, l1, σ =>
    if (8073 : Int32) ≤ l1 then
      (qI σ 12 39 l0).bind fun v42 =>
      (pI σ 12 39 l0 (v42 - (1 : Int32))).bind fun σ47 =>
      fc12_remember_50 N l0 σ47
    else
      (qR σ 12 38 l0).bind fun v19 =>
      (qR σ 12 38 l0).bind fun v24 =>
      (ldI σ v24 (l1 + (207 : Int32))).bind fun v32 =>
      (stI σ v19 l1 v32).bind fun σ33 =>
      (fc12_remember_11 N n) l0 (l1 + (1 : Int32)) σ33
def fc12_remember (N : Nat) (a0 : Nat) (σ : Me) : Option (Unit × Me) :=
  (qI σ 12 39 (some a0)).bind fun v1 =>
  if v1 = (40 : Int32) then
    fc12_remember_11 N N (some a0) (0 : Int32) σ
  else
    fc12_remember_50 N (some a0) σ
set_option maxRecDepth 20000 in
set_option maxHeartbeats 2000000 in
theorem pc12_remember_52 {Ω : Om} {Γ : Ga} {N : Nat} (hG : Good Ω Γ tc12_remember 1 0 0)  : ∀ (n : Nat) (l0 : Option Nat) (l1 : Int32) (σ : Me), Sim Ω Γ 0 0 ιV 2 52 [(0, vR l0), (1, vI l1)] [] σ 0 0 (fc12_remember_52 N n l0 l1 σ) := by
  intro n
  induction n with
  | zero => intros; exact s_none
  | succ n ih =>
    intro l0 l1 σ
    unfold fc12_remember_52
    refine s_iload_n hG dc12_remember_52 rfl ?_
    refine s_sipush (v := 207) hG dc12_remember_53 (by decide) ?_
    refine s_icmp_ge hG 86 dc12_remember_56 (by decide) ?_ ?_
    · refine s_aload_n hG dc12_remember_86 rfl ?_
      refine s_dup hG dc12_remember_87 rfl ?_
      refine s_getI hG kFc12_296 rfl dc12_remember_88 (fun v88 => ?_)
      refine s_iconst (v := 1) hG dc12_remember_91 (by decide) ?_
      refine s_iadd hG dc12_remember_92 ?_
      refine s_putI (fin := false) hG kFc12_296 rfl (fun h => by cases h) rfl (fun _ => rfl) (fun _ => rfl) dc12_remember_93 (fun σ93 => ?_)
      exact s_vret hG dc12_remember_96 rfl (Nat.le_of_ble_eq_true rfl) (Nat.le_of_ble_eq_true rfl)
    · refine s_aload_n hG dc12_remember_59 rfl ?_
      refine s_getR hG kFc12_78 rfl dc12_remember_60 (fun v60 => ?_)
      refine s_sipush (v := 207) hG dc12_remember_63 (by decide) ?_
      refine s_aload_n hG dc12_remember_66 rfl ?_
      refine s_getI hG kFc12_296 rfl dc12_remember_67 (fun v67 => ?_)
      refine s_imul hG dc12_remember_70 ?_
      refine s_iload_n hG dc12_remember_71 rfl ?_
      refine s_iadd hG dc12_remember_72 ?_
      refine s_aload_n hG dc12_remember_73 rfl ?_
      refine s_getR hG kFc12_55 rfl dc12_remember_74 (fun v74 => ?_)
      refine s_iload_n hG dc12_remember_77 rfl ?_
      refine s_iald hG dc12_remember_78 (fun v78 => ?_)
      refine s_iast hG dc12_remember_79 (fun σ79 => ?_)
      refine s_iinc (v := 1) hG dc12_remember_80 rfl (by decide) (by decide) ?_
      refine s_goto hG 52 dc12_remember_83 (by decide) ?_
      exact s_lv (lc rfl (lc rfl ln)) (ih _ _ _)
set_option maxRecDepth 20000 in
set_option maxHeartbeats 2000000 in
theorem pc12_remember_50 {Ω : Om} {Γ : Ga} {N : Nat} (hG : Good Ω Γ tc12_remember 1 0 0) (l0 : Option Nat) (σ : Me) : Sim Ω Γ 0 0 ιV 2 50 [(0, vR l0)] [] σ 0 0 (fc12_remember_50 N l0 σ) := by
  unfold fc12_remember_50
  refine s_iconst (v := 0) hG dc12_remember_50 (by decide) ?_
  refine s_istore_n hG dc12_remember_51 (by decide) ?_
  exact s_lv (lc rfl (lc rfl ln)) (pc12_remember_52 hG _ _ _ _)
set_option maxRecDepth 20000 in
set_option maxHeartbeats 2000000 in
theorem pc12_remember_11 {Ω : Om} {Γ : Ga} {N : Nat} (hG : Good Ω Γ tc12_remember 1 0 0)  : ∀ (n : Nat) (l0 : Option Nat) (l1 : Int32) (σ : Me), Sim Ω Γ 0 0 ιV 2 11 [(0, vR l0), (1, vI l1)] [] σ 0 0 (fc12_remember_11 N n l0 l1 σ) := by
  intro n
  induction n with
  | zero => intros; exact s_none
  | succ n ih =>
    intro l0 l1 σ
    unfold fc12_remember_11
    refine s_iload_n hG dc12_remember_11 rfl ?_
    refine s_sipush (v := 8073) hG dc12_remember_12 (by decide) ?_
    refine s_icmp_ge hG 40 dc12_remember_15 (by decide) ?_ ?_
    · refine s_aload_n hG dc12_remember_40 rfl ?_
      refine s_dup hG dc12_remember_41 rfl ?_
      refine s_getI hG kFc12_296 rfl dc12_remember_42 (fun v42 => ?_)
      refine s_iconst (v := 1) hG dc12_remember_45 (by decide) ?_
      refine s_isub hG dc12_remember_46 ?_
      refine s_putI (fin := false) hG kFc12_296 rfl (fun h => by cases h) rfl (fun _ => rfl) (fun _ => rfl) dc12_remember_47 (fun σ47 => ?_)
      exact s_lv (lc rfl ln) (pc12_remember_50 hG _ _)
    · refine s_aload_n hG dc12_remember_18 rfl ?_
      refine s_getR hG kFc12_78 rfl dc12_remember_19 (fun v19 => ?_)
      refine s_iload_n hG dc12_remember_22 rfl ?_
      refine s_aload_n hG dc12_remember_23 rfl ?_
      refine s_getR hG kFc12_78 rfl dc12_remember_24 (fun v24 => ?_)
      refine s_iload_n hG dc12_remember_27 rfl ?_
      refine s_sipush (v := 207) hG dc12_remember_28 (by decide) ?_
      refine s_iadd hG dc12_remember_31 ?_
      refine s_iald hG dc12_remember_32 (fun v32 => ?_)
      refine s_iast hG dc12_remember_33 (fun σ33 => ?_)
      refine s_iinc (v := 1) hG dc12_remember_34 rfl (by decide) (by decide) ?_
      refine s_goto hG 11 dc12_remember_37 (by decide) ?_
      exact s_lv (lc rfl (lc rfl ln)) (ih _ _ _)
set_option maxRecDepth 20000 in
set_option maxHeartbeats 2000000 in
theorem corc12_remember {Ω : Om} (N : Nat) (a0 : Nat) (σ : Me) : Cor Ω tc12_remember 1 0 0 [vR (some a0)] σ ιV (fc12_remember N a0 σ) := by
  refine Cor.of (by decide +kernel) (Nat.le_of_ble_eq_true rfl) (fun Γ hG => ?_)
  unfold fc12_remember
  show Sim Ω Γ 0 0 ιV 2 0 [(0, vR (some a0))] [] σ 0 0 _
  refine s_aload_n hG dc12_remember_0 rfl ?_
  refine s_getI hG kFc12_296 rfl dc12_remember_1 (fun v1 => ?_)
  refine s_bipush (v := 40) hG dc12_remember_4 (by decide) ?_
  refine s_icmp_ne hG 50 dc12_remember_6 (by decide) ?_ ?_
  · exact s_lv (lc rfl ln) (pc12_remember_50 hG _ _)
  · refine s_iconst (v := 0) hG dc12_remember_9 (by decide) ?_
    refine s_istore_n hG dc12_remember_10 (by decide) ?_
    exact s_lv (lc rfl (lc rfl ln)) (pc12_remember_11 hG _ _ _ _)
def fc12_year (N : Nat) (a0 : Nat) (x1 : Int32) (σ : Me) : Option (Int32 × Me) :=
  (pI σ 12 0 (some a0) (0 : Int32)).bind fun σ2 =>
  (qI σ2 12 24 (some a0)).bind fun v6 =>
  if v6 = 0 then
    some ((-1 : Int32), σ2)
  else
    (fc12_isRain N x1 σ2).bind fun p13 =>
    if p13.1 = 0 then
      some ((-1 : Int32), p13.2)
    else
      (qR p13.2 12 28 (some a0)).bind fun v20 =>
      (ldI p13.2 v20 (25 : Int32)).bind fun v25 =>
      if v25 = (999 : Int32) then
        some ((-1 : Int32), p13.2)
      else
        (dr p13.2 (some a0) (.inl 12)).bind fun a =>
        (fc12_remember N a p13.2).bind fun p35 =>
        (qR p35.2 12 28 (some a0)).bind fun v40 =>
        (dr p35.2 (some a0) (.inl 12)).bind fun a =>
        (fc12_goYear N a v40 x1 p35.2).bind fun p44 =>
        (qI p44.2 12 37 (some a0)).bind fun v48 =>
        some (v48, p44.2)
set_option maxRecDepth 20000 in
set_option maxHeartbeats 2000000 in
theorem corc12_year {Ω : Om} (N : Nat) (a0 : Nat) (x1 : Int32) (σ : Me) : Cor Ω tc12_year 142 0 0 [vR (some a0), vI x1] σ ιI (fc12_year N a0 x1 σ) := by
  refine Cor.of (by decide +kernel) (Nat.le_of_ble_eq_true rfl) (fun Γ hG => ?_)
  unfold fc12_year
  show Sim Ω Γ 0 0 ιI 2 0 [(0, vR (some a0)), (1, vI x1)] [] σ 0 0 _
  refine s_aload_n hG dc12_year_0 rfl ?_
  refine s_iconst (v := 0) hG dc12_year_1 (by decide) ?_
  refine s_putI (fin := false) hG kFc12_100 rfl (fun h => by cases h) rfl (fun _ => rfl) (fun _ => rfl) dc12_year_2 (fun σ2 => ?_)
  refine s_aload_n hG dc12_year_5 rfl ?_
  refine s_getI hG kFc12_290 rfl dc12_year_6 (fun v6 => ?_)
  refine s_if_eq hG 32 dc12_year_9 (by decide) ?_ ?_
  · refine s_iconst (v := -1) hG dc12_year_32 (by decide) ?_
    exact s_iret hG dc12_year_33 rfl (Nat.le_of_ble_eq_true rfl) (Nat.le_of_ble_eq_true rfl)
  · refine s_iload_n hG dc12_year_12 rfl ?_
    refine s_callSi hG kMc12_363 (corc12_isRain N _ _) rfl (by first | decide | omega) dc12_year_13 rfl rfl (Nat.le_of_ble_eq_true rfl) ⟨Nat.le_of_ble_eq_true rfl, Nat.le_of_ble_eq_true rfl⟩ (fun p13 => ?_)
    refine s_if_eq hG 32 dc12_year_16 (by decide) ?_ ?_
    · refine s_iconst (v := -1) hG dc12_year_32 (by decide) ?_
      exact s_iret hG dc12_year_33 rfl (Nat.le_of_ble_eq_true rfl) (Nat.le_of_ble_eq_true rfl)
    · refine s_aload_n hG dc12_year_19 rfl ?_
      refine s_getR hG kFc12_55 rfl dc12_year_20 (fun v20 => ?_)
      refine s_bipush (v := 25) hG dc12_year_23 (by decide) ?_
      refine s_iald hG dc12_year_25 (fun v25 => ?_)
      refine s_sipush (v := 999) hG dc12_year_26 (by decide) ?_
      refine s_icmp_ne hG 34 dc12_year_29 (by decide) ?_ ?_
      · refine s_aload_n hG dc12_year_34 rfl ?_
        refine s_callVv hG kMc12_366 (fun a => corc12_remember N a _) ⟨by decide, rfl⟩ rfl (by first | decide | omega) dc12_year_35 rfl rfl (Nat.le_of_ble_eq_true rfl) ⟨Nat.le_of_ble_eq_true rfl, Nat.le_of_ble_eq_true rfl⟩ (fun p35 => ?_)
        refine s_aload_n hG dc12_year_38 rfl ?_
        refine s_aload_n hG dc12_year_39 rfl ?_
        refine s_getR hG kFc12_55 rfl dc12_year_40 (fun v40 => ?_)
        refine s_iload_n hG dc12_year_43 rfl ?_
        refine s_callVv hG kMc12_349 (fun a => corc12_goYear N a _ _ _) ⟨by decide, rfl⟩ rfl (by first | decide | omega) dc12_year_44 rfl rfl (Nat.le_of_ble_eq_true rfl) ⟨Nat.le_of_ble_eq_true rfl, Nat.le_of_ble_eq_true rfl⟩ (fun p44 => ?_)
        refine s_aload_n hG dc12_year_47 rfl ?_
        refine s_getI hG kFc12_342 rfl dc12_year_48 (fun v48 => ?_)
        exact s_iret hG dc12_year_51 rfl (Nat.le_of_ble_eq_true rfl) (Nat.le_of_ble_eq_true rfl)
      · refine s_iconst (v := -1) hG dc12_year_32 (by decide) ?_
        exact s_iret hG dc12_year_33 rfl (Nat.le_of_ble_eq_true rfl) (Nat.le_of_ble_eq_true rfl)
def fc12_canSell (N : Nat) (a0 : Nat) (x1 : Option Nat) (x2 : Int32) (x3 : Int32) (x4 : Int32) (σ : Me) : Option (Int32 × Me) :=
  (dr σ (some a0) (.inl 12)).bind fun a =>
  (fc12_isField N a x2 σ).bind fun p2 =>
  if p2.1 = 0 then
    retZ (0 : Int32) p2.2
  else
    (dr p2.2 (some a0) (.inl 12)).bind fun a =>
    (fc12_isField N a x3 p2.2).bind fun p10 =>
    if p10.1 = 0 then
      retZ (0 : Int32) p10.2
    else
      if x2 = x3 then
        retZ (0 : Int32) p10.2
      else
        (ldI p10.2 x1 (((4 : Int32) * x2) + (0 : Int32))).bind fun v27 =>
        if x4 ≤ v27 then
          (ldI p10.2 x1 (24 : Int32)).bind fun v40 =>
          (ldI p10.2 x1 (((4 : Int32) * x3) + (3 : Int32))).bind fun v50 =>
          if v50 < (x4 * v40) then
            retZ (0 : Int32) p10.2
          else
            (ldI p10.2 x1 (((4 : Int32) * x2) + (3 : Int32))).bind fun v62 =>
            if (999 : Int32) < (v62 + (x4 * v40)) then
              retZ (0 : Int32) p10.2
            else
              retZ (1 : Int32) p10.2
        else
          retZ (0 : Int32) p10.2
set_option maxRecDepth 20000 in
set_option maxHeartbeats 2000000 in
theorem corc12_canSell {Ω : Om} (N : Nat) (a0 : Nat) (x1 : Option Nat) (x2 : Int32) (x3 : Int32) (x4 : Int32) (σ : Me) : Cor Ω tc12_canSell 2 0 0 [vR (some a0), vR x1, vI x2, vI x3, vI x4] σ ιI (fc12_canSell N a0 x1 x2 x3 x4 σ) := by
  refine Cor.of (by decide +kernel) (Nat.le_of_ble_eq_true rfl) (fun Γ hG => ?_)
  unfold fc12_canSell
  show Sim Ω Γ 0 0 ιI 6 0 [(0, vR (some a0)), (1, vR x1), (2, vI x2), (3, vI x3), (4, vI x4)] [] σ 0 0 _
  refine s_aload_n hG dc12_canSell_0 rfl ?_
  refine s_iload_n hG dc12_canSell_1 rfl ?_
  refine s_callVi hG kMc12_353 (fun a => corc12_isField N a _ _) ⟨by decide, rfl⟩ rfl (by first | decide | omega) dc12_canSell_2 rfl rfl (Nat.le_of_ble_eq_true rfl) ⟨Nat.le_of_ble_eq_true rfl, Nat.le_of_ble_eq_true rfl⟩ (fun p2 => ?_)
  refine s_if_eq hG 33 dc12_canSell_5 (by decide) ?_ ?_
  · refine s_iconst (v := 0) hG dc12_canSell_33 (by decide) ?_
    exact s_zret hG dc12_canSell_34 rfl (Nat.le_of_ble_eq_true rfl) (Nat.le_of_ble_eq_true rfl)
  · refine s_aload_n hG dc12_canSell_8 rfl ?_
    refine s_iload_n hG dc12_canSell_9 rfl ?_
    refine s_callVi hG kMc12_353 (fun a => corc12_isField N a _ _) ⟨by decide, rfl⟩ rfl (by first | decide | omega) dc12_canSell_10 rfl rfl (Nat.le_of_ble_eq_true rfl) ⟨Nat.le_of_ble_eq_true rfl, Nat.le_of_ble_eq_true rfl⟩ (fun p10 => ?_)
    refine s_if_eq hG 33 dc12_canSell_13 (by decide) ?_ ?_
    · refine s_iconst (v := 0) hG dc12_canSell_33 (by decide) ?_
      exact s_zret hG dc12_canSell_34 rfl (Nat.le_of_ble_eq_true rfl) (Nat.le_of_ble_eq_true rfl)
    · refine s_iload_n hG dc12_canSell_16 rfl ?_
      refine s_iload_n hG dc12_canSell_17 rfl ?_
      refine s_icmp_eq hG 33 dc12_canSell_18 (by decide) ?_ ?_
      · refine s_iconst (v := 0) hG dc12_canSell_33 (by decide) ?_
        exact s_zret hG dc12_canSell_34 rfl (Nat.le_of_ble_eq_true rfl) (Nat.le_of_ble_eq_true rfl)
      · refine s_aload_n hG dc12_canSell_21 rfl ?_
        refine s_iconst (v := 4) hG dc12_canSell_22 (by decide) ?_
        refine s_iload_n hG dc12_canSell_23 rfl ?_
        refine s_imul hG dc12_canSell_24 ?_
        refine s_iconst (v := 0) hG dc12_canSell_25 (by decide) ?_
        refine s_iadd hG dc12_canSell_26 ?_
        refine s_iald hG dc12_canSell_27 (fun v27 => ?_)
        refine s_iload hG dc12_canSell_28 rfl ?_
        refine s_icmp_ge hG 35 dc12_canSell_30 (by decide) ?_ ?_
        · refine s_iload hG dc12_canSell_35 rfl ?_
          refine s_aload_n hG dc12_canSell_37 rfl ?_
          refine s_bipush (v := 24) hG dc12_canSell_38 (by decide) ?_
          refine s_iald hG dc12_canSell_40 (fun v40 => ?_)
          refine s_imul hG dc12_canSell_41 ?_
          refine s_istore hG dc12_canSell_42 (by decide) ?_
          refine s_aload_n hG dc12_canSell_44 rfl ?_
          refine s_iconst (v := 4) hG dc12_canSell_45 (by decide) ?_
          refine s_iload_n hG dc12_canSell_46 rfl ?_
          refine s_imul hG dc12_canSell_47 ?_
          refine s_iconst (v := 3) hG dc12_canSell_48 (by decide) ?_
          refine s_iadd hG dc12_canSell_49 ?_
          refine s_iald hG dc12_canSell_50 (fun v50 => ?_)
          refine s_iload hG dc12_canSell_51 rfl ?_
          refine s_icmp_lt hG 76 dc12_canSell_53 (by decide) ?_ ?_
          · refine s_iconst (v := 0) hG dc12_canSell_76 (by decide) ?_
            exact s_zret hG dc12_canSell_77 rfl (Nat.le_of_ble_eq_true rfl) (Nat.le_of_ble_eq_true rfl)
          · refine s_aload_n hG dc12_canSell_56 rfl ?_
            refine s_iconst (v := 4) hG dc12_canSell_57 (by decide) ?_
            refine s_iload_n hG dc12_canSell_58 rfl ?_
            refine s_imul hG dc12_canSell_59 ?_
            refine s_iconst (v := 3) hG dc12_canSell_60 (by decide) ?_
            refine s_iadd hG dc12_canSell_61 ?_
            refine s_iald hG dc12_canSell_62 (fun v62 => ?_)
            refine s_iload hG dc12_canSell_63 rfl ?_
            refine s_iadd hG dc12_canSell_65 ?_
            refine s_sipush (v := 999) hG dc12_canSell_66 (by decide) ?_
            refine s_icmp_gt hG 76 dc12_canSell_69 (by decide) ?_ ?_
            · refine s_iconst (v := 0) hG dc12_canSell_76 (by decide) ?_
              exact s_zret hG dc12_canSell_77 rfl (Nat.le_of_ble_eq_true rfl) (Nat.le_of_ble_eq_true rfl)
            · refine s_iconst (v := 1) hG dc12_canSell_72 (by decide) ?_
              refine s_goto hG 77 dc12_canSell_73 (by decide) ?_
              exact s_zret hG dc12_canSell_77 rfl (Nat.le_of_ble_eq_true rfl) (Nat.le_of_ble_eq_true rfl)
        · refine s_iconst (v := 0) hG dc12_canSell_33 (by decide) ?_
          exact s_zret hG dc12_canSell_34 rfl (Nat.le_of_ble_eq_true rfl) (Nat.le_of_ble_eq_true rfl)
def fc12_sells (N : Nat) (x0 : Option Nat) (x1 : Int32) (x2 : Int32) (x3 : Int32) (σ : Me) : Option (Unit × Me) :=
  (ldI σ x0 (24 : Int32)).bind fun v4 =>
  (ldI σ x0 (((4 : Int32) * x1) + (0 : Int32))).bind fun v15 =>
  (stI σ x0 (((4 : Int32) * x1) + (0 : Int32)) (v15 - x3)).bind fun σ18 =>
  (ldI σ18 x0 (((4 : Int32) * x2) + (0 : Int32))).bind fun v34 =>
  (fMt_min N (999 : Int32) (v34 + x3) σ18).bind fun p37 =>
  (stI p37.2 x0 (((4 : Int32) * x2) + (0 : Int32)) p37.1).bind fun σ40 =>
  (ldI σ40 x0 (((4 : Int32) * x1) + (3 : Int32))).bind fun v48 =>
  (stI σ40 x0 (((4 : Int32) * x1) + (3 : Int32)) (v48 + (x3 * v4))).bind fun σ52 =>
  (ldI σ52 x0 (((4 : Int32) * x2) + (3 : Int32))).bind fun v60 =>
  (stI σ52 x0 (((4 : Int32) * x2) + (3 : Int32)) (v60 - (x3 * v4))).bind fun σ64 =>
  some ((), σ64)
set_option maxRecDepth 20000 in
set_option maxHeartbeats 2000000 in
theorem corc12_sells {Ω : Om} (N : Nat) (x0 : Option Nat) (x1 : Int32) (x2 : Int32) (x3 : Int32) (σ : Me) : Cor Ω tc12_sells 2 0 0 [vR x0, vI x1, vI x2, vI x3] σ ιV (fc12_sells N x0 x1 x2 x3 σ) := by
  refine Cor.of (by decide +kernel) (Nat.le_of_ble_eq_true rfl) (fun Γ hG => ?_)
  unfold fc12_sells
  show Sim Ω Γ 0 0 ιV 5 0 [(0, vR x0), (1, vI x1), (2, vI x2), (3, vI x3)] [] σ 0 0 _
  refine s_iload_n hG dc12_sells_0 rfl ?_
  refine s_aload_n hG dc12_sells_1 rfl ?_
  refine s_bipush (v := 24) hG dc12_sells_2 (by decide) ?_
  refine s_iald hG dc12_sells_4 (fun v4 => ?_)
  refine s_imul hG dc12_sells_5 ?_
  refine s_istore hG dc12_sells_6 (by decide) ?_
  refine s_aload_n hG dc12_sells_8 rfl ?_
  refine s_iconst (v := 4) hG dc12_sells_9 (by decide) ?_
  refine s_iload_n hG dc12_sells_10 rfl ?_
  refine s_imul hG dc12_sells_11 ?_
  refine s_iconst (v := 0) hG dc12_sells_12 (by decide) ?_
  refine s_iadd hG dc12_sells_13 ?_
  refine s_dup2 hG dc12_sells_14 rfl rfl ?_
  refine s_iald hG dc12_sells_15 (fun v15 => ?_)
  refine s_iload_n hG dc12_sells_16 rfl ?_
  refine s_isub hG dc12_sells_17 ?_
  refine s_iast hG dc12_sells_18 (fun σ18 => ?_)
  refine s_aload_n hG dc12_sells_19 rfl ?_
  refine s_iconst (v := 4) hG dc12_sells_20 (by decide) ?_
  refine s_iload_n hG dc12_sells_21 rfl ?_
  refine s_imul hG dc12_sells_22 ?_
  refine s_iconst (v := 0) hG dc12_sells_23 (by decide) ?_
  refine s_iadd hG dc12_sells_24 ?_
  refine s_sipush (v := 999) hG dc12_sells_25 (by decide) ?_
  refine s_aload_n hG dc12_sells_28 rfl ?_
  refine s_iconst (v := 4) hG dc12_sells_29 (by decide) ?_
  refine s_iload_n hG dc12_sells_30 rfl ?_
  refine s_imul hG dc12_sells_31 ?_
  refine s_iconst (v := 0) hG dc12_sells_32 (by decide) ?_
  refine s_iadd hG dc12_sells_33 ?_
  refine s_iald hG dc12_sells_34 (fun v34 => ?_)
  refine s_iload_n hG dc12_sells_35 rfl ?_
  refine s_iadd hG dc12_sells_36 ?_
  refine s_callSi hG kMc12_324 (corMt_min N _ _ _) rfl (by first | decide | omega) dc12_sells_37 rfl rfl (Nat.le_of_ble_eq_true rfl) ⟨Nat.le_of_ble_eq_true rfl, Nat.le_of_ble_eq_true rfl⟩ (fun p37 => ?_)
  refine s_iast hG dc12_sells_40 (fun σ40 => ?_)
  refine s_aload_n hG dc12_sells_41 rfl ?_
  refine s_iconst (v := 4) hG dc12_sells_42 (by decide) ?_
  refine s_iload_n hG dc12_sells_43 rfl ?_
  refine s_imul hG dc12_sells_44 ?_
  refine s_iconst (v := 3) hG dc12_sells_45 (by decide) ?_
  refine s_iadd hG dc12_sells_46 ?_
  refine s_dup2 hG dc12_sells_47 rfl rfl ?_
  refine s_iald hG dc12_sells_48 (fun v48 => ?_)
  refine s_iload hG dc12_sells_49 rfl ?_
  refine s_iadd hG dc12_sells_51 ?_
  refine s_iast hG dc12_sells_52 (fun σ52 => ?_)
  refine s_aload_n hG dc12_sells_53 rfl ?_
  refine s_iconst (v := 4) hG dc12_sells_54 (by decide) ?_
  refine s_iload_n hG dc12_sells_55 rfl ?_
  refine s_imul hG dc12_sells_56 ?_
  refine s_iconst (v := 3) hG dc12_sells_57 (by decide) ?_
  refine s_iadd hG dc12_sells_58 ?_
  refine s_dup2 hG dc12_sells_59 rfl rfl ?_
  refine s_iald hG dc12_sells_60 (fun v60 => ?_)
  refine s_iload hG dc12_sells_61 rfl ?_
  refine s_isub hG dc12_sells_63 ?_
  refine s_iast hG dc12_sells_64 (fun σ64 => ?_)
  exact s_vret hG dc12_sells_65 rfl (Nat.le_of_ble_eq_true rfl) (Nat.le_of_ble_eq_true rfl)
def fc12_sell (N : Nat) (a0 : Nat) (x1 : Int32) (x2 : Int32) (x3 : Int32) (σ : Me) : Option (Int32 × Me) :=
  (pI σ 12 0 (some a0) (0 : Int32)).bind fun σ2 =>
  (fc12_isIn N (Int32.toInt64 x3) (1 : Int64) (20 : Int64) σ2).bind fun p11 =>
  if p11.1 = 0 then
    some ((-1 : Int32), p11.2)
  else
    (qR p11.2 12 28 (some a0)).bind fun v19 =>
    (dr p11.2 (some a0) (.inl 12)).bind fun a =>
    (fc12_canSell N a v19 x1 x2 x3 p11.2).bind fun p25 =>
    if p25.1 = 0 then
      some ((-1 : Int32), p25.2)
    else
      (dr p25.2 (some a0) (.inl 12)).bind fun a =>
      (fc12_remember N a p25.2).bind fun p34 =>
      (qR p34.2 12 28 (some a0)).bind fun v38 =>
      (fc12_sells N v38 x1 x2 x3 p34.2).bind fun p44 =>
      (qR p44.2 12 28 (some a0)).bind fun v48 =>
      (ldI p44.2 v48 (((4 : Int32) * x1) + (3 : Int32))).bind fun v56 =>
      some (v56, p44.2)
set_option maxRecDepth 20000 in
set_option maxHeartbeats 2000000 in
theorem corc12_sell {Ω : Om} (N : Nat) (a0 : Nat) (x1 : Int32) (x2 : Int32) (x3 : Int32) (σ : Me) : Cor Ω tc12_sell 3 0 0 [vR (some a0), vI x1, vI x2, vI x3] σ ιI (fc12_sell N a0 x1 x2 x3 σ) := by
  refine Cor.of (by decide +kernel) (Nat.le_of_ble_eq_true rfl) (fun Γ hG => ?_)
  unfold fc12_sell
  show Sim Ω Γ 0 0 ιI 4 0 [(0, vR (some a0)), (1, vI x1), (2, vI x2), (3, vI x3)] [] σ 0 0 _
  refine s_aload_n hG dc12_sell_0 rfl ?_
  refine s_iconst (v := 0) hG dc12_sell_1 (by decide) ?_
  refine s_putI (fin := false) hG kFc12_100 rfl (fun h => by cases h) rfl (fun _ => rfl) (fun _ => rfl) dc12_sell_2 (fun σ2 => ?_)
  refine s_iload_n hG dc12_sell_5 rfl ?_
  refine s_i2l hG dc12_sell_6 ?_
  refine s_lconst (v := 1) hG dc12_sell_7 (by decide) ?_
  refine s_ldc2 hG dc12_sell_8 kJc12_369 ?_
  refine s_callSi hG kMc12_221 (corc12_isIn N _ _ _ _) rfl (by first | decide | omega) dc12_sell_11 rfl rfl (Nat.le_of_ble_eq_true rfl) ⟨Nat.le_of_ble_eq_true rfl, Nat.le_of_ble_eq_true rfl⟩ (fun p11 => ?_)
  refine s_if_eq hG 31 dc12_sell_14 (by decide) ?_ ?_
  · refine s_iconst (v := -1) hG dc12_sell_31 (by decide) ?_
    exact s_iret hG dc12_sell_32 rfl (Nat.le_of_ble_eq_true rfl) (Nat.le_of_ble_eq_true rfl)
  · refine s_aload_n hG dc12_sell_17 rfl ?_
    refine s_aload_n hG dc12_sell_18 rfl ?_
    refine s_getR hG kFc12_55 rfl dc12_sell_19 (fun v19 => ?_)
    refine s_iload_n hG dc12_sell_22 rfl ?_
    refine s_iload_n hG dc12_sell_23 rfl ?_
    refine s_iload_n hG dc12_sell_24 rfl ?_
    refine s_callVi hG kMc12_371 (fun a => corc12_canSell N a _ _ _ _ _) ⟨by decide, rfl⟩ rfl (by first | decide | omega) dc12_sell_25 rfl rfl (Nat.le_of_ble_eq_true rfl) ⟨Nat.le_of_ble_eq_true rfl, Nat.le_of_ble_eq_true rfl⟩ (fun p25 => ?_)
    refine s_if_ne hG 33 dc12_sell_28 (by decide) ?_ ?_
    · refine s_aload_n hG dc12_sell_33 rfl ?_
      refine s_callVv hG kMc12_366 (fun a => corc12_remember N a _) ⟨by decide, rfl⟩ rfl (by first | decide | omega) dc12_sell_34 rfl rfl (Nat.le_of_ble_eq_true rfl) ⟨Nat.le_of_ble_eq_true rfl, Nat.le_of_ble_eq_true rfl⟩ (fun p34 => ?_)
      refine s_aload_n hG dc12_sell_37 rfl ?_
      refine s_getR hG kFc12_55 rfl dc12_sell_38 (fun v38 => ?_)
      refine s_iload_n hG dc12_sell_41 rfl ?_
      refine s_iload_n hG dc12_sell_42 rfl ?_
      refine s_iload_n hG dc12_sell_43 rfl ?_
      refine s_callSv hG kMc12_375 (corc12_sells N _ _ _ _ _) rfl (by first | decide | omega) dc12_sell_44 rfl rfl (Nat.le_of_ble_eq_true rfl) ⟨Nat.le_of_ble_eq_true rfl, Nat.le_of_ble_eq_true rfl⟩ (fun p44 => ?_)
      refine s_aload_n hG dc12_sell_47 rfl ?_
      refine s_getR hG kFc12_55 rfl dc12_sell_48 (fun v48 => ?_)
      refine s_iconst (v := 4) hG dc12_sell_51 (by decide) ?_
      refine s_iload_n hG dc12_sell_52 rfl ?_
      refine s_imul hG dc12_sell_53 ?_
      refine s_iconst (v := 3) hG dc12_sell_54 (by decide) ?_
      refine s_iadd hG dc12_sell_55 ?_
      refine s_iald hG dc12_sell_56 (fun v56 => ?_)
      exact s_iret hG dc12_sell_57 rfl (Nat.le_of_ble_eq_true rfl) (Nat.le_of_ble_eq_true rfl)
    · refine s_iconst (v := -1) hG dc12_sell_31 (by decide) ?_
      exact s_iret hG dc12_sell_32 rfl (Nat.le_of_ble_eq_true rfl) (Nat.le_of_ble_eq_true rfl)
def fc12_canForgive (N : Nat) (a0 : Nat) (x1 : Option Nat) (x2 : Int32) (x3 : Int32) (σ : Me) : Option (Int32 × Me) :=
  (dr σ (some a0) (.inl 12)).bind fun a =>
  (fc12_isField N a x2 σ).bind fun p2 =>
  if p2.1 = 0 then
    retZ (0 : Int32) p2.2
  else
    (fc12_isIn N (Int32.toInt64 x3) (1 : Int64) (20 : Int64) p2.2).bind fun p14 =>
    if p14.1 = 0 then
      retZ (0 : Int32) p14.2
    else
      (ldI p14.2 x1 (((4 : Int32) * x2) + (0 : Int32))).bind fun v27 =>
      if v27 < x3 then
        retZ (0 : Int32) p14.2
      else
        retZ (1 : Int32) p14.2
set_option maxRecDepth 20000 in
set_option maxHeartbeats 2000000 in
theorem corc12_canForgive {Ω : Om} (N : Nat) (a0 : Nat) (x1 : Option Nat) (x2 : Int32) (x3 : Int32) (σ : Me) : Cor Ω tc12_canForgive 2 0 0 [vR (some a0), vR x1, vI x2, vI x3] σ ιI (fc12_canForgive N a0 x1 x2 x3 σ) := by
  refine Cor.of (by decide +kernel) (Nat.le_of_ble_eq_true rfl) (fun Γ hG => ?_)
  unfold fc12_canForgive
  show Sim Ω Γ 0 0 ιI 4 0 [(0, vR (some a0)), (1, vR x1), (2, vI x2), (3, vI x3)] [] σ 0 0 _
  refine s_aload_n hG dc12_canForgive_0 rfl ?_
  refine s_iload_n hG dc12_canForgive_1 rfl ?_
  refine s_callVi hG kMc12_353 (fun a => corc12_isField N a _ _) ⟨by decide, rfl⟩ rfl (by first | decide | omega) dc12_canForgive_2 rfl rfl (Nat.le_of_ble_eq_true rfl) ⟨Nat.le_of_ble_eq_true rfl, Nat.le_of_ble_eq_true rfl⟩ (fun p2 => ?_)
  refine s_if_eq hG 35 dc12_canForgive_5 (by decide) ?_ ?_
  · refine s_iconst (v := 0) hG dc12_canForgive_35 (by decide) ?_
    exact s_zret hG dc12_canForgive_36 rfl (Nat.le_of_ble_eq_true rfl) (Nat.le_of_ble_eq_true rfl)
  · refine s_iload_n hG dc12_canForgive_8 rfl ?_
    refine s_i2l hG dc12_canForgive_9 ?_
    refine s_lconst (v := 1) hG dc12_canForgive_10 (by decide) ?_
    refine s_ldc2 hG dc12_canForgive_11 kJc12_369 ?_
    refine s_callSi hG kMc12_221 (corc12_isIn N _ _ _ _) rfl (by first | decide | omega) dc12_canForgive_14 rfl rfl (Nat.le_of_ble_eq_true rfl) ⟨Nat.le_of_ble_eq_true rfl, Nat.le_of_ble_eq_true rfl⟩ (fun p14 => ?_)
    refine s_if_eq hG 35 dc12_canForgive_17 (by decide) ?_ ?_
    · refine s_iconst (v := 0) hG dc12_canForgive_35 (by decide) ?_
      exact s_zret hG dc12_canForgive_36 rfl (Nat.le_of_ble_eq_true rfl) (Nat.le_of_ble_eq_true rfl)
    · refine s_iload_n hG dc12_canForgive_20 rfl ?_
      refine s_aload_n hG dc12_canForgive_21 rfl ?_
      refine s_iconst (v := 4) hG dc12_canForgive_22 (by decide) ?_
      refine s_iload_n hG dc12_canForgive_23 rfl ?_
      refine s_imul hG dc12_canForgive_24 ?_
      refine s_iconst (v := 0) hG dc12_canForgive_25 (by decide) ?_
      refine s_iadd hG dc12_canForgive_26 ?_
      refine s_iald hG dc12_canForgive_27 (fun v27 => ?_)
      refine s_icmp_gt hG 35 dc12_canForgive_28 (by decide) ?_ ?_
      · refine s_iconst (v := 0) hG dc12_canForgive_35 (by decide) ?_
        exact s_zret hG dc12_canForgive_36 rfl (Nat.le_of_ble_eq_true rfl) (Nat.le_of_ble_eq_true rfl)
      · refine s_iconst (v := 1) hG dc12_canForgive_31 (by decide) ?_
        refine s_goto hG 36 dc12_canForgive_32 (by decide) ?_
        exact s_zret hG dc12_canForgive_36 rfl (Nat.le_of_ble_eq_true rfl) (Nat.le_of_ble_eq_true rfl)
def fc12_forgives_14 (N : Nat) : Nat → Option Nat → Option Nat → Int32 → Me → Option (Unit × Me)
  | 0, _, _, _, _ => none
  | n + 1, l0, l1, l4, σ =>
    (qI σ 12 24 l0).bind fun v17 =>
    if v17 ≤ l4 then
      some ((), σ)
    else
      (ldI σ l1 (((4 : Int32) * l4) + (2 : Int32))).bind fun v39 =>
      (fMt_min N (30 : Int32) (v39 + (1 : Int32)) σ).bind fun p42 =>
      (stI p42.2 l1 (((4 : Int32) * l4) + (2 : Int32)) p42.1).bind fun σ45 =>
      (fc12_forgives_14 N n) l0 l1 (l4 + (1 : Int32)) σ45
def fc12_forgives (N : Nat) (a0 : Nat) (x1 : Option Nat) (x2 : Int32) (x3 : Int32) (σ : Me) : Option (Unit × Me) :=
  (ldI σ x1 (((4 : Int32) * x2) + (0 : Int32))).bind fun v7 =>
  (stI σ x1 (((4 : Int32) * x2) + (0 : Int32)) (v7 - x3)).bind fun σ10 =>
  fc12_forgives_14 N N (some a0) x1 (0 : Int32) σ10
set_option maxRecDepth 20000 in
set_option maxHeartbeats 2000000 in
theorem pc12_forgives_14 {Ω : Om} {Γ : Ga} {N : Nat} (hG : Good Ω Γ tc12_forgives 2 0 0)  : ∀ (n : Nat) (l0 : Option Nat) (l1 : Option Nat) (l4 : Int32) (σ : Me), Sim Ω Γ 0 0 ιV 5 14 [(0, vR l0), (1, vR l1), (4, vI l4)] [] σ 0 0 (fc12_forgives_14 N n l0 l1 l4 σ) := by
  intro n
  induction n with
  | zero => intros; exact s_none
  | succ n ih =>
    intro l0 l1 l4 σ
    unfold fc12_forgives_14
    refine s_iload hG dc12_forgives_14 rfl ?_
    refine s_aload_n hG dc12_forgives_16 rfl ?_
    refine s_getI hG kFc12_290 rfl dc12_forgives_17 (fun v17 => ?_)
    refine s_icmp_ge hG 52 dc12_forgives_20 (by decide) ?_ ?_
    · exact s_vret hG dc12_forgives_52 rfl (Nat.le_of_ble_eq_true rfl) (Nat.le_of_ble_eq_true rfl)
    · refine s_aload_n hG dc12_forgives_23 rfl ?_
      refine s_iconst (v := 4) hG dc12_forgives_24 (by decide) ?_
      refine s_iload hG dc12_forgives_25 rfl ?_
      refine s_imul hG dc12_forgives_27 ?_
      refine s_iconst (v := 2) hG dc12_forgives_28 (by decide) ?_
      refine s_iadd hG dc12_forgives_29 ?_
      refine s_bipush (v := 30) hG dc12_forgives_30 (by decide) ?_
      refine s_aload_n hG dc12_forgives_32 rfl ?_
      refine s_iconst (v := 4) hG dc12_forgives_33 (by decide) ?_
      refine s_iload hG dc12_forgives_34 rfl ?_
      refine s_imul hG dc12_forgives_36 ?_
      refine s_iconst (v := 2) hG dc12_forgives_37 (by decide) ?_
      refine s_iadd hG dc12_forgives_38 ?_
      refine s_iald hG dc12_forgives_39 (fun v39 => ?_)
      refine s_iconst (v := 1) hG dc12_forgives_40 (by decide) ?_
      refine s_iadd hG dc12_forgives_41 ?_
      refine s_callSi hG kMc12_324 (corMt_min N _ _ _) rfl (by first | decide | omega) dc12_forgives_42 rfl rfl (Nat.le_of_ble_eq_true rfl) ⟨Nat.le_of_ble_eq_true rfl, Nat.le_of_ble_eq_true rfl⟩ (fun p42 => ?_)
      refine s_iast hG dc12_forgives_45 (fun σ45 => ?_)
      refine s_iinc (v := 1) hG dc12_forgives_46 rfl (by decide) (by decide) ?_
      refine s_goto hG 14 dc12_forgives_49 (by decide) ?_
      exact s_lv (lc rfl (lc rfl (lc rfl ln))) (ih _ _ _ _)
set_option maxRecDepth 20000 in
set_option maxHeartbeats 2000000 in
theorem corc12_forgives {Ω : Om} (N : Nat) (a0 : Nat) (x1 : Option Nat) (x2 : Int32) (x3 : Int32) (σ : Me) : Cor Ω tc12_forgives 2 0 0 [vR (some a0), vR x1, vI x2, vI x3] σ ιV (fc12_forgives N a0 x1 x2 x3 σ) := by
  refine Cor.of (by decide +kernel) (Nat.le_of_ble_eq_true rfl) (fun Γ hG => ?_)
  unfold fc12_forgives
  show Sim Ω Γ 0 0 ιV 5 0 [(0, vR (some a0)), (1, vR x1), (2, vI x2), (3, vI x3)] [] σ 0 0 _
  refine s_aload_n hG dc12_forgives_0 rfl ?_
  refine s_iconst (v := 4) hG dc12_forgives_1 (by decide) ?_
  refine s_iload_n hG dc12_forgives_2 rfl ?_
  refine s_imul hG dc12_forgives_3 ?_
  refine s_iconst (v := 0) hG dc12_forgives_4 (by decide) ?_
  refine s_iadd hG dc12_forgives_5 ?_
  refine s_dup2 hG dc12_forgives_6 rfl rfl ?_
  refine s_iald hG dc12_forgives_7 (fun v7 => ?_)
  refine s_iload_n hG dc12_forgives_8 rfl ?_
  refine s_isub hG dc12_forgives_9 ?_
  refine s_iast hG dc12_forgives_10 (fun σ10 => ?_)
  refine s_iconst (v := 0) hG dc12_forgives_11 (by decide) ?_
  refine s_istore hG dc12_forgives_12 (by decide) ?_
  exact s_lv (lc rfl (lc rfl (lc rfl ln))) (pc12_forgives_14 hG _ _ _ _ _)
