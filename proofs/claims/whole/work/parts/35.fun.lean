def fc12_text_288 (N : Nat) : Nat → Option Nat → Int32 → Me → Option (Int32 × Me)
  | 0, _, _, _ => none
  | n + 1, l0, l3, σ =>
    (qI σ 12 24 l0).bind fun v290 =>
    if v290 ≤ l3 then
      (qR σ 12 28 l0).bind fun v381 =>
      (qR σ 12 18 l0).bind fun v387 =>
      (ldI σ v387 (2 : Int32)).bind fun v391 =>
      (stI σ v381 (24 : Int32) v391).bind fun σ392 =>
      (pI σ392 12 45 l0 (0 : Int32)).bind fun σ395 =>
      (pI σ395 12 39 l0 (0 : Int32)).bind fun σ400 =>
      (pZ σ400 12 48 l0 (0 : Int32)).bind fun σ405 =>
      (qI σ405 12 24 l0).bind fun v409 =>
      some (v409, σ405)
    else
      (qR σ 12 28 l0).bind fun v297 =>
      (qR σ 12 20 l0).bind fun v306 =>
      (ldI σ v306 ((5 : Int32) * l3)).bind fun v312 =>
      (stI σ v297 (((4 : Int32) * l3) + (0 : Int32)) v312).bind fun σ313 =>
      (qR σ313 12 28 l0).bind fun v315 =>
      (qR σ313 12 20 l0).bind fun v324 =>
      (ldI σ313 v324 (((5 : Int32) * l3) + (1 : Int32))).bind fun v332 =>
      (stI σ313 v315 (((4 : Int32) * l3) + (1 : Int32)) v332).bind fun σ333 =>
      (qR σ333 12 28 l0).bind fun v335 =>
      (qR σ333 12 20 l0).bind fun v344 =>
      (ldI σ333 v344 (((5 : Int32) * l3) + (2 : Int32))).bind fun v352 =>
      (stI σ333 v335 (((4 : Int32) * l3) + (2 : Int32)) v352).bind fun σ353 =>
      (qR σ353 12 28 l0).bind fun v355 =>
      (qR σ353 12 20 l0).bind fun v364 =>
      (ldI σ353 v364 (((5 : Int32) * l3) + (4 : Int32))).bind fun v372 =>
      (stI σ353 v355 (((4 : Int32) * l3) + (3 : Int32)) v372).bind fun σ373 =>
      (fc12_text_288 N n) l0 (l3 + (1 : Int32)) σ373
def fc12_text_266 (N : Nat) : Nat → Option Nat → Int32 → Me → Option (Int32 × Me)
  | 0, _, _, _ => none
  | n + 1, l0, l3, σ =>
    if (207 : Int32) ≤ l3 then
      fc12_text_288 N N l0 (0 : Int32) σ
    else
      (qR σ 12 28 l0).bind fun v274 =>
      (stI σ v274 l3 (0 : Int32)).bind fun σ279 =>
      (fc12_text_266 N n) l0 (l3 + (1 : Int32)) σ279
def fc12_text_240 (N : Nat) : Nat → Option Nat → Int32 → Me → Option (Int32 × Me)
  | 0, _, _, _ => none
  | n + 1, l0, l3, σ =>
    if (30 : Int32) ≤ l3 then
      fc12_text_266 N N l0 (0 : Int32) σ
    else
      (qR σ 12 20 l0).bind fun v247 =>
      (qR σ 12 21 l0).bind fun v252 =>
      (ldI σ v252 l3).bind fun v256 =>
      (stI σ v247 l3 v256).bind fun σ257 =>
      (fc12_text_240 N n) l0 (l3 + (1 : Int32)) σ257
def fc12_text_215 (N : Nat) : Nat → Option Nat → Int32 → Me → Option (Int32 × Me)
  | 0, _, _, _ => none
  | n + 1, l0, l3, σ =>
    if (3 : Int32) ≤ l3 then
      fc12_text_240 N N l0 (0 : Int32) σ
    else
      (qR σ 12 18 l0).bind fun v221 =>
      (qR σ 12 19 l0).bind fun v226 =>
      (ldI σ v226 l3).bind fun v230 =>
      (stI σ v221 l3 v230).bind fun σ231 =>
      (fc12_text_215 N n) l0 (l3 + (1 : Int32)) σ231
def fc12_text_137 (N : Nat) : Nat → Option Nat → Int32 → Me → Option (Int32 × Me)
  | 0, _, _, _ => none
  | n + 1, l0, l3, σ =>
    if (48 : Int32) ≤ l3 then
      (qR σ 12 23 l0).bind fun v174 =>
      (qI σ 12 26 l0).bind fun v178 =>
      (qR σ 12 23 l0).bind fun v182 =>
      (ldI σ v182 (4 : Int32)).bind fun v186 =>
      (stI σ v174 v178 v186).bind fun σ187 =>
      (qI σ187 12 26 l0).bind fun v190 =>
      (pI σ187 12 26 l0 (v190 + (1 : Int32))).bind fun σ195 =>
      (qI σ195 12 26 l0).bind fun v199 =>
      some ((v199 - (1 : Int32)), σ195)
    else
      (qR σ 12 22 l0).bind fun v144 =>
      (qI σ 12 26 l0).bind fun v150 =>
      (qR σ 12 22 l0).bind fun v157 =>
      (ldI σ v157 ((192 : Int32) + l3)).bind fun v165 =>
      (stI σ v144 (((48 : Int32) * v150) + l3) v165).bind fun σ166 =>
      (fc12_text_137 N n) l0 (l3 + (1 : Int32)) σ166
def fc12_text_71 (N : Nat) : Nat → Option Nat → Int32 → Int32 → Me → Option (Int32 × Me)
  | 0, _, _, _, _ => none
  | n + 1, l0, l2, l3, σ =>
    if l2 ≤ l3 then
      (qR σ 12 3 l0).bind fun v104 =>
      (qI σ 12 7 l0).bind fun v108 =>
      (stI σ v104 v108 l2).bind fun σ112 =>
      (qI σ112 12 7 l0).bind fun v115 =>
      (pI σ112 12 7 l0 (v115 + (1 : Int32))).bind fun σ120 =>
      (qI σ120 12 7 l0).bind fun v124 =>
      some ((v124 - (1 : Int32)), σ120)
    else
      (qR σ 12 2 l0).bind fun v77 =>
      (qI σ 12 7 l0).bind fun v84 =>
      (qR σ 12 1 l0).bind fun v91 =>
      (ldB σ v91 l3).bind fun v95 =>
      (stB σ v77 (((240 : Int32) * v84) + l3) v95).bind fun σ96 =>
      (fc12_text_71 N n) l0 l2 (l3 + (1 : Int32)) σ96
def fc12_text_43 (N : Nat) (l0 : Option Nat) (l1 : Int32) (σ : Me) : Option (Int32 × Me) :=
  (dr σ l0 (.inl 12)).bind fun a =>
  (fc12_fault N a l1 σ).bind fun p45 =>
  if p45.1 = (-1 : Int32) then
    (qI p45.2 12 6 l0).bind fun v55 =>
    (pI p45.2 12 6 l0 (0 : Int32)).bind fun σ61 =>
    if l1 = (1 : Int32) then
      fc12_text_71 N N l0 v55 (0 : Int32) σ61
    else
      if l1 = (2 : Int32) then
        fc12_text_137 N N l0 (0 : Int32) σ61
      else
        (qI σ61 12 25 l0).bind fun v207 =>
        (pI σ61 12 24 l0 v207).bind fun σ210 =>
        fc12_text_215 N N l0 (0 : Int32) σ210
  else
    some ((-1 : Int32), p45.2)
def fc12_text_30 (N : Nat) (l0 : Option Nat) (l1 : Int32) (σ : Me) : Option (Int32 × Me) :=
  if l1 = (2 : Int32) then
    (qI σ 12 26 l0).bind fun v36 =>
    if v36 = (4 : Int32) then
      some ((-1 : Int32), σ)
    else
      fc12_text_43 N l0 l1 σ
  else
    fc12_text_43 N l0 l1 σ
def fc12_text (N : Nat) (a0 : Nat) (x1 : Int32) (σ : Me) : Option (Int32 × Me) :=
  (pI σ 12 0 (some a0) (0 : Int32)).bind fun σ2 =>
  (fc12_isIn N (Int32.toInt64 x1) (0 : Int64) (2 : Int64) σ2).bind fun p11 =>
  if p11.1 = 0 then
    some ((-1 : Int32), p11.2)
  else
    if x1 = (1 : Int32) then
      (qI p11.2 12 7 (some a0)).bind fun v23 =>
      if v23 = (4 : Int32) then
        some ((-1 : Int32), p11.2)
      else
        fc12_text_30 N (some a0) x1 p11.2
    else
      fc12_text_30 N (some a0) x1 p11.2
set_option maxRecDepth 20000 in
set_option maxHeartbeats 2000000 in
theorem pc12_text_288 {Ω : Om} {Γ : Ga} {N : Nat} (hG : Good Ω Γ tc12_text 140 0 0)  : ∀ (n : Nat) (l0 : Option Nat) (l3 : Int32) (σ : Me), Sim Ω Γ 0 0 ιI 4 288 [(0, vR l0), (3, vI l3)] [] σ 0 0 (fc12_text_288 N n l0 l3 σ) := by
  intro n
  induction n with
  | zero => intros; exact s_none
  | succ n ih =>
    intro l0 l3 σ
    unfold fc12_text_288
    refine s_iload_n hG dc12_text_288 rfl ?_
    refine s_aload_n hG dc12_text_289 rfl ?_
    refine s_getI hG kFc12_290 rfl dc12_text_290 (fun v290 => ?_)
    refine s_icmp_ge hG 380 dc12_text_293 (by decide) ?_ ?_
    · refine s_aload_n hG dc12_text_380 rfl ?_
      refine s_getR hG kFc12_55 rfl dc12_text_381 (fun v381 => ?_)
      refine s_bipush (v := 24) hG dc12_text_384 (by decide) ?_
      refine s_aload_n hG dc12_text_386 rfl ?_
      refine s_getR hG kFc12_37 rfl dc12_text_387 (fun v387 => ?_)
      refine s_iconst (v := 2) hG dc12_text_390 (by decide) ?_
      refine s_iald hG dc12_text_391 (fun v391 => ?_)
      refine s_iast hG dc12_text_392 (fun σ392 => ?_)
      refine s_aload_n hG dc12_text_393 rfl ?_
      refine s_iconst (v := 0) hG dc12_text_394 (by decide) ?_
      refine s_putI (fin := false) hG kFc12_293 rfl (fun h => by cases h) rfl (fun _ => rfl) (fun _ => rfl) dc12_text_395 (fun σ395 => ?_)
      refine s_aload_n hG dc12_text_398 rfl ?_
      refine s_iconst (v := 0) hG dc12_text_399 (by decide) ?_
      refine s_putI (fin := false) hG kFc12_296 rfl (fun h => by cases h) rfl (fun _ => rfl) (fun _ => rfl) dc12_text_400 (fun σ400 => ?_)
      refine s_aload_n hG dc12_text_403 rfl ?_
      refine s_iconst (v := 0) hG dc12_text_404 (by decide) ?_
      refine s_putZ hG kFc12_299 rfl rfl dc12_text_405 (fun σ405 => ?_)
      refine s_aload_n hG dc12_text_408 rfl ?_
      refine s_getI hG kFc12_290 rfl dc12_text_409 (fun v409 => ?_)
      exact s_iret hG dc12_text_412 rfl (Nat.le_of_ble_eq_true rfl) (Nat.le_of_ble_eq_true rfl)
    · refine s_aload_n hG dc12_text_296 rfl ?_
      refine s_getR hG kFc12_55 rfl dc12_text_297 (fun v297 => ?_)
      refine s_iconst (v := 4) hG dc12_text_300 (by decide) ?_
      refine s_iload_n hG dc12_text_301 rfl ?_
      refine s_imul hG dc12_text_302 ?_
      refine s_iconst (v := 0) hG dc12_text_303 (by decide) ?_
      refine s_iadd hG dc12_text_304 ?_
      refine s_aload_n hG dc12_text_305 rfl ?_
      refine s_getR hG kFc12_43 rfl dc12_text_306 (fun v306 => ?_)
      refine s_iconst (v := 5) hG dc12_text_309 (by decide) ?_
      refine s_iload_n hG dc12_text_310 rfl ?_
      refine s_imul hG dc12_text_311 ?_
      refine s_iald hG dc12_text_312 (fun v312 => ?_)
      refine s_iast hG dc12_text_313 (fun σ313 => ?_)
      refine s_aload_n hG dc12_text_314 rfl ?_
      refine s_getR hG kFc12_55 rfl dc12_text_315 (fun v315 => ?_)
      refine s_iconst (v := 4) hG dc12_text_318 (by decide) ?_
      refine s_iload_n hG dc12_text_319 rfl ?_
      refine s_imul hG dc12_text_320 ?_
      refine s_iconst (v := 1) hG dc12_text_321 (by decide) ?_
      refine s_iadd hG dc12_text_322 ?_
      refine s_aload_n hG dc12_text_323 rfl ?_
      refine s_getR hG kFc12_43 rfl dc12_text_324 (fun v324 => ?_)
      refine s_iconst (v := 5) hG dc12_text_327 (by decide) ?_
      refine s_iload_n hG dc12_text_328 rfl ?_
      refine s_imul hG dc12_text_329 ?_
      refine s_iconst (v := 1) hG dc12_text_330 (by decide) ?_
      refine s_iadd hG dc12_text_331 ?_
      refine s_iald hG dc12_text_332 (fun v332 => ?_)
      refine s_iast hG dc12_text_333 (fun σ333 => ?_)
      refine s_aload_n hG dc12_text_334 rfl ?_
      refine s_getR hG kFc12_55 rfl dc12_text_335 (fun v335 => ?_)
      refine s_iconst (v := 4) hG dc12_text_338 (by decide) ?_
      refine s_iload_n hG dc12_text_339 rfl ?_
      refine s_imul hG dc12_text_340 ?_
      refine s_iconst (v := 2) hG dc12_text_341 (by decide) ?_
      refine s_iadd hG dc12_text_342 ?_
      refine s_aload_n hG dc12_text_343 rfl ?_
      refine s_getR hG kFc12_43 rfl dc12_text_344 (fun v344 => ?_)
      refine s_iconst (v := 5) hG dc12_text_347 (by decide) ?_
      refine s_iload_n hG dc12_text_348 rfl ?_
      refine s_imul hG dc12_text_349 ?_
      refine s_iconst (v := 2) hG dc12_text_350 (by decide) ?_
      refine s_iadd hG dc12_text_351 ?_
      refine s_iald hG dc12_text_352 (fun v352 => ?_)
      refine s_iast hG dc12_text_353 (fun σ353 => ?_)
      refine s_aload_n hG dc12_text_354 rfl ?_
      refine s_getR hG kFc12_55 rfl dc12_text_355 (fun v355 => ?_)
      refine s_iconst (v := 4) hG dc12_text_358 (by decide) ?_
      refine s_iload_n hG dc12_text_359 rfl ?_
      refine s_imul hG dc12_text_360 ?_
      refine s_iconst (v := 3) hG dc12_text_361 (by decide) ?_
      refine s_iadd hG dc12_text_362 ?_
      refine s_aload_n hG dc12_text_363 rfl ?_
      refine s_getR hG kFc12_43 rfl dc12_text_364 (fun v364 => ?_)
      refine s_iconst (v := 5) hG dc12_text_367 (by decide) ?_
      refine s_iload_n hG dc12_text_368 rfl ?_
      refine s_imul hG dc12_text_369 ?_
      refine s_iconst (v := 4) hG dc12_text_370 (by decide) ?_
      refine s_iadd hG dc12_text_371 ?_
      refine s_iald hG dc12_text_372 (fun v372 => ?_)
      refine s_iast hG dc12_text_373 (fun σ373 => ?_)
      refine s_iinc (v := 1) hG dc12_text_374 rfl (by decide) (by decide) ?_
      refine s_goto hG 288 dc12_text_377 (by decide) ?_
      exact s_lv (lc rfl (lc rfl ln)) (ih _ _ _)
set_option maxRecDepth 20000 in
set_option maxHeartbeats 2000000 in
theorem pc12_text_266 {Ω : Om} {Γ : Ga} {N : Nat} (hG : Good Ω Γ tc12_text 140 0 0)  : ∀ (n : Nat) (l0 : Option Nat) (l3 : Int32) (σ : Me), Sim Ω Γ 0 0 ιI 4 266 [(0, vR l0), (3, vI l3)] [] σ 0 0 (fc12_text_266 N n l0 l3 σ) := by
  intro n
  induction n with
  | zero => intros; exact s_none
  | succ n ih =>
    intro l0 l3 σ
    unfold fc12_text_266
    refine s_iload_n hG dc12_text_266 rfl ?_
    refine s_sipush (v := 207) hG dc12_text_267 (by decide) ?_
    refine s_icmp_ge hG 286 dc12_text_270 (by decide) ?_ ?_
    · refine s_iconst (v := 0) hG dc12_text_286 (by decide) ?_
      refine s_istore_n hG dc12_text_287 (by decide) ?_
      exact s_lv (lc rfl (lc rfl ln)) (pc12_text_288 hG _ _ _ _)
    · refine s_aload_n hG dc12_text_273 rfl ?_
      refine s_getR hG kFc12_55 rfl dc12_text_274 (fun v274 => ?_)
      refine s_iload_n hG dc12_text_277 rfl ?_
      refine s_iconst (v := 0) hG dc12_text_278 (by decide) ?_
      refine s_iast hG dc12_text_279 (fun σ279 => ?_)
      refine s_iinc (v := 1) hG dc12_text_280 rfl (by decide) (by decide) ?_
      refine s_goto hG 266 dc12_text_283 (by decide) ?_
      exact s_lv (lc rfl (lc rfl ln)) (ih _ _ _)
set_option maxRecDepth 20000 in
set_option maxHeartbeats 2000000 in
theorem pc12_text_240 {Ω : Om} {Γ : Ga} {N : Nat} (hG : Good Ω Γ tc12_text 140 0 0)  : ∀ (n : Nat) (l0 : Option Nat) (l3 : Int32) (σ : Me), Sim Ω Γ 0 0 ιI 4 240 [(0, vR l0), (3, vI l3)] [] σ 0 0 (fc12_text_240 N n l0 l3 σ) := by
  intro n
  induction n with
  | zero => intros; exact s_none
  | succ n ih =>
    intro l0 l3 σ
    unfold fc12_text_240
    refine s_iload_n hG dc12_text_240 rfl ?_
    refine s_bipush (v := 30) hG dc12_text_241 (by decide) ?_
    refine s_icmp_ge hG 264 dc12_text_243 (by decide) ?_ ?_
    · refine s_iconst (v := 0) hG dc12_text_264 (by decide) ?_
      refine s_istore_n hG dc12_text_265 (by decide) ?_
      exact s_lv (lc rfl (lc rfl ln)) (pc12_text_266 hG _ _ _ _)
    · refine s_aload_n hG dc12_text_246 rfl ?_
      refine s_getR hG kFc12_43 rfl dc12_text_247 (fun v247 => ?_)
      refine s_iload_n hG dc12_text_250 rfl ?_
      refine s_aload_n hG dc12_text_251 rfl ?_
      refine s_getR hG kFc12_46 rfl dc12_text_252 (fun v252 => ?_)
      refine s_iload_n hG dc12_text_255 rfl ?_
      refine s_iald hG dc12_text_256 (fun v256 => ?_)
      refine s_iast hG dc12_text_257 (fun σ257 => ?_)
      refine s_iinc (v := 1) hG dc12_text_258 rfl (by decide) (by decide) ?_
      refine s_goto hG 240 dc12_text_261 (by decide) ?_
      exact s_lv (lc rfl (lc rfl ln)) (ih _ _ _)
set_option maxRecDepth 20000 in
set_option maxHeartbeats 2000000 in
theorem pc12_text_215 {Ω : Om} {Γ : Ga} {N : Nat} (hG : Good Ω Γ tc12_text 140 0 0)  : ∀ (n : Nat) (l0 : Option Nat) (l3 : Int32) (σ : Me), Sim Ω Γ 0 0 ιI 4 215 [(0, vR l0), (3, vI l3)] [] σ 0 0 (fc12_text_215 N n l0 l3 σ) := by
  intro n
  induction n with
  | zero => intros; exact s_none
  | succ n ih =>
    intro l0 l3 σ
    unfold fc12_text_215
    refine s_iload_n hG dc12_text_215 rfl ?_
    refine s_iconst (v := 3) hG dc12_text_216 (by decide) ?_
    refine s_icmp_ge hG 238 dc12_text_217 (by decide) ?_ ?_
    · refine s_iconst (v := 0) hG dc12_text_238 (by decide) ?_
      refine s_istore_n hG dc12_text_239 (by decide) ?_
      exact s_lv (lc rfl (lc rfl ln)) (pc12_text_240 hG _ _ _ _)
    · refine s_aload_n hG dc12_text_220 rfl ?_
      refine s_getR hG kFc12_37 rfl dc12_text_221 (fun v221 => ?_)
      refine s_iload_n hG dc12_text_224 rfl ?_
      refine s_aload_n hG dc12_text_225 rfl ?_
      refine s_getR hG kFc12_40 rfl dc12_text_226 (fun v226 => ?_)
      refine s_iload_n hG dc12_text_229 rfl ?_
      refine s_iald hG dc12_text_230 (fun v230 => ?_)
      refine s_iast hG dc12_text_231 (fun σ231 => ?_)
      refine s_iinc (v := 1) hG dc12_text_232 rfl (by decide) (by decide) ?_
      refine s_goto hG 215 dc12_text_235 (by decide) ?_
      exact s_lv (lc rfl (lc rfl ln)) (ih _ _ _)
set_option maxRecDepth 20000 in
set_option maxHeartbeats 2000000 in
theorem pc12_text_137 {Ω : Om} {Γ : Ga} {N : Nat} (hG : Good Ω Γ tc12_text 140 0 0)  : ∀ (n : Nat) (l0 : Option Nat) (l3 : Int32) (σ : Me), Sim Ω Γ 0 0 ιI 4 137 [(0, vR l0), (3, vI l3)] [] σ 0 0 (fc12_text_137 N n l0 l3 σ) := by
  intro n
  induction n with
  | zero => intros; exact s_none
  | succ n ih =>
    intro l0 l3 σ
    unfold fc12_text_137
    refine s_iload_n hG dc12_text_137 rfl ?_
    refine s_bipush (v := 48) hG dc12_text_138 (by decide) ?_
    refine s_icmp_ge hG 173 dc12_text_140 (by decide) ?_ ?_
    · refine s_aload_n hG dc12_text_173 rfl ?_
      refine s_getR hG kFc12_52 rfl dc12_text_174 (fun v174 => ?_)
      refine s_aload_n hG dc12_text_177 rfl ?_
      refine s_getI hG kFc12_285 rfl dc12_text_178 (fun v178 => ?_)
      refine s_aload_n hG dc12_text_181 rfl ?_
      refine s_getR hG kFc12_52 rfl dc12_text_182 (fun v182 => ?_)
      refine s_iconst (v := 4) hG dc12_text_185 (by decide) ?_
      refine s_iald hG dc12_text_186 (fun v186 => ?_)
      refine s_iast hG dc12_text_187 (fun σ187 => ?_)
      refine s_aload_n hG dc12_text_188 rfl ?_
      refine s_dup hG dc12_text_189 rfl ?_
      refine s_getI hG kFc12_285 rfl dc12_text_190 (fun v190 => ?_)
      refine s_iconst (v := 1) hG dc12_text_193 (by decide) ?_
      refine s_iadd hG dc12_text_194 ?_
      refine s_putI (fin := false) hG kFc12_285 rfl (fun h => by cases h) rfl (fun _ => rfl) (fun _ => rfl) dc12_text_195 (fun σ195 => ?_)
      refine s_aload_n hG dc12_text_198 rfl ?_
      refine s_getI hG kFc12_285 rfl dc12_text_199 (fun v199 => ?_)
      refine s_iconst (v := 1) hG dc12_text_202 (by decide) ?_
      refine s_isub hG dc12_text_203 ?_
      exact s_iret hG dc12_text_204 rfl (Nat.le_of_ble_eq_true rfl) (Nat.le_of_ble_eq_true rfl)
    · refine s_aload_n hG dc12_text_143 rfl ?_
      refine s_getR hG kFc12_49 rfl dc12_text_144 (fun v144 => ?_)
      refine s_bipush (v := 48) hG dc12_text_147 (by decide) ?_
      refine s_aload_n hG dc12_text_149 rfl ?_
      refine s_getI hG kFc12_285 rfl dc12_text_150 (fun v150 => ?_)
      refine s_imul hG dc12_text_153 ?_
      refine s_iload_n hG dc12_text_154 rfl ?_
      refine s_iadd hG dc12_text_155 ?_
      refine s_aload_n hG dc12_text_156 rfl ?_
      refine s_getR hG kFc12_49 rfl dc12_text_157 (fun v157 => ?_)
      refine s_sipush (v := 192) hG dc12_text_160 (by decide) ?_
      refine s_iload_n hG dc12_text_163 rfl ?_
      refine s_iadd hG dc12_text_164 ?_
      refine s_iald hG dc12_text_165 (fun v165 => ?_)
      refine s_iast hG dc12_text_166 (fun σ166 => ?_)
      refine s_iinc (v := 1) hG dc12_text_167 rfl (by decide) (by decide) ?_
      refine s_goto hG 137 dc12_text_170 (by decide) ?_
      exact s_lv (lc rfl (lc rfl ln)) (ih _ _ _)
set_option maxRecDepth 20000 in
set_option maxHeartbeats 2000000 in
theorem pc12_text_71 {Ω : Om} {Γ : Ga} {N : Nat} (hG : Good Ω Γ tc12_text 140 0 0)  : ∀ (n : Nat) (l0 : Option Nat) (l2 : Int32) (l3 : Int32) (σ : Me), Sim Ω Γ 0 0 ιI 4 71 [(0, vR l0), (2, vI l2), (3, vI l3)] [] σ 0 0 (fc12_text_71 N n l0 l2 l3 σ) := by
  intro n
  induction n with
  | zero => intros; exact s_none
  | succ n ih =>
    intro l0 l2 l3 σ
    unfold fc12_text_71
    refine s_iload_n hG dc12_text_71 rfl ?_
    refine s_iload_n hG dc12_text_72 rfl ?_
    refine s_icmp_ge hG 103 dc12_text_73 (by decide) ?_ ?_
    · refine s_aload_n hG dc12_text_103 rfl ?_
      refine s_getR hG kFc12_16 rfl dc12_text_104 (fun v104 => ?_)
      refine s_aload_n hG dc12_text_107 rfl ?_
      refine s_getI hG kFc12_282 rfl dc12_text_108 (fun v108 => ?_)
      refine s_iload_n hG dc12_text_111 rfl ?_
      refine s_iast hG dc12_text_112 (fun σ112 => ?_)
      refine s_aload_n hG dc12_text_113 rfl ?_
      refine s_dup hG dc12_text_114 rfl ?_
      refine s_getI hG kFc12_282 rfl dc12_text_115 (fun v115 => ?_)
      refine s_iconst (v := 1) hG dc12_text_118 (by decide) ?_
      refine s_iadd hG dc12_text_119 ?_
      refine s_putI (fin := false) hG kFc12_282 rfl (fun h => by cases h) rfl (fun _ => rfl) (fun _ => rfl) dc12_text_120 (fun σ120 => ?_)
      refine s_aload_n hG dc12_text_123 rfl ?_
      refine s_getI hG kFc12_282 rfl dc12_text_124 (fun v124 => ?_)
      refine s_iconst (v := 1) hG dc12_text_127 (by decide) ?_
      refine s_isub hG dc12_text_128 ?_
      exact s_iret hG dc12_text_129 rfl (Nat.le_of_ble_eq_true rfl) (Nat.le_of_ble_eq_true rfl)
    · refine s_aload_n hG dc12_text_76 rfl ?_
      refine s_getR hG kFc12_13 rfl dc12_text_77 (fun v77 => ?_)
      refine s_sipush (v := 240) hG dc12_text_80 (by decide) ?_
      refine s_aload_n hG dc12_text_83 rfl ?_
      refine s_getI hG kFc12_282 rfl dc12_text_84 (fun v84 => ?_)
      refine s_imul hG dc12_text_87 ?_
      refine s_iload_n hG dc12_text_88 rfl ?_
      refine s_iadd hG dc12_text_89 ?_
      refine s_aload_n hG dc12_text_90 rfl ?_
      refine s_getR hG kFc12_9 rfl dc12_text_91 (fun v91 => ?_)
      refine s_iload_n hG dc12_text_94 rfl ?_
      refine s_bald hG dc12_text_95 (fun v95 => ?_)
      refine s_bast hG dc12_text_96 (fun σ96 => ?_)
      refine s_iinc (v := 1) hG dc12_text_97 rfl (by decide) (by decide) ?_
      refine s_goto hG 71 dc12_text_100 (by decide) ?_
      exact s_lv (lc rfl (lc rfl (lc rfl ln))) (ih _ _ _ _)
set_option maxRecDepth 20000 in
set_option maxHeartbeats 2000000 in
theorem pc12_text_43 {Ω : Om} {Γ : Ga} {N : Nat} (hG : Good Ω Γ tc12_text 140 0 0) (l0 : Option Nat) (l1 : Int32) (σ : Me) : Sim Ω Γ 0 0 ιI 4 43 [(0, vR l0), (1, vI l1)] [] σ 0 0 (fc12_text_43 N l0 l1 σ) := by
  unfold fc12_text_43
  refine s_aload_n hG dc12_text_43 rfl ?_
  refine s_iload_n hG dc12_text_44 rfl ?_
  refine s_callVi hG kMc12_288 (fun a => corc12_fault N a _ _) ⟨by decide, rfl⟩ rfl (by first | decide | omega) dc12_text_45 rfl rfl (Nat.le_of_ble_eq_true rfl) ⟨Nat.le_of_ble_eq_true rfl, Nat.le_of_ble_eq_true rfl⟩ (fun p45 => ?_)
  refine s_iconst (v := -1) hG dc12_text_48 (by decide) ?_
  refine s_icmp_eq hG 54 dc12_text_49 (by decide) ?_ ?_
  · refine s_aload_n hG dc12_text_54 rfl ?_
    refine s_getI hG kFc12_113 rfl dc12_text_55 (fun v55 => ?_)
    refine s_istore_n hG dc12_text_58 (by decide) ?_
    refine s_aload_n hG dc12_text_59 rfl ?_
    refine s_iconst (v := 0) hG dc12_text_60 (by decide) ?_
    refine s_putI (fin := false) hG kFc12_113 rfl (fun h => by cases h) rfl (fun _ => rfl) (fun _ => rfl) dc12_text_61 (fun σ61 => ?_)
    refine s_iload_n hG dc12_text_64 rfl ?_
    refine s_iconst (v := 1) hG dc12_text_65 (by decide) ?_
    refine s_icmp_ne hG 130 dc12_text_66 (by decide) ?_ ?_
    · refine s_iload_n hG dc12_text_130 rfl ?_
      refine s_iconst (v := 2) hG dc12_text_131 (by decide) ?_
      refine s_icmp_ne hG 205 dc12_text_132 (by decide) ?_ ?_
      · refine s_aload_n hG dc12_text_205 rfl ?_
        refine s_aload_n hG dc12_text_206 rfl ?_
        refine s_getI hG kFc12_249 rfl dc12_text_207 (fun v207 => ?_)
        refine s_putI (fin := false) hG kFc12_290 rfl (fun h => by cases h) rfl (fun _ => rfl) (fun _ => rfl) dc12_text_210 (fun σ210 => ?_)
        refine s_iconst (v := 0) hG dc12_text_213 (by decide) ?_
        refine s_istore_n hG dc12_text_214 (by decide) ?_
        exact s_lv (lc rfl (lc rfl ln)) (pc12_text_215 hG _ _ _ _)
      · refine s_iconst (v := 0) hG dc12_text_135 (by decide) ?_
        refine s_istore_n hG dc12_text_136 (by decide) ?_
        exact s_lv (lc rfl (lc rfl ln)) (pc12_text_137 hG _ _ _ _)
    · refine s_iconst (v := 0) hG dc12_text_69 (by decide) ?_
      refine s_istore_n hG dc12_text_70 (by decide) ?_
      exact s_lv (lc rfl (lc rfl (lc rfl ln))) (pc12_text_71 hG _ _ _ _ _)
  · refine s_iconst (v := -1) hG dc12_text_52 (by decide) ?_
    exact s_iret hG dc12_text_53 rfl (Nat.le_of_ble_eq_true rfl) (Nat.le_of_ble_eq_true rfl)
set_option maxRecDepth 20000 in
set_option maxHeartbeats 2000000 in
theorem pc12_text_30 {Ω : Om} {Γ : Ga} {N : Nat} (hG : Good Ω Γ tc12_text 140 0 0) (l0 : Option Nat) (l1 : Int32) (σ : Me) : Sim Ω Γ 0 0 ιI 4 30 [(0, vR l0), (1, vI l1)] [] σ 0 0 (fc12_text_30 N l0 l1 σ) := by
  unfold fc12_text_30
  refine s_iload_n hG dc12_text_30 rfl ?_
  refine s_iconst (v := 2) hG dc12_text_31 (by decide) ?_
  refine s_icmp_ne hG 43 dc12_text_32 (by decide) ?_ ?_
  · exact s_lv (lc rfl (lc rfl ln)) (pc12_text_43 hG _ _ _)
  · refine s_aload_n hG dc12_text_35 rfl ?_
    refine s_getI hG kFc12_285 rfl dc12_text_36 (fun v36 => ?_)
    refine s_iconst (v := 4) hG dc12_text_39 (by decide) ?_
    refine s_icmp_eq hG 52 dc12_text_40 (by decide) ?_ ?_
    · refine s_iconst (v := -1) hG dc12_text_52 (by decide) ?_
      exact s_iret hG dc12_text_53 rfl (Nat.le_of_ble_eq_true rfl) (Nat.le_of_ble_eq_true rfl)
    · exact s_lv (lc rfl (lc rfl ln)) (pc12_text_43 hG _ _ _)
set_option maxRecDepth 20000 in
set_option maxHeartbeats 2000000 in
theorem corc12_text {Ω : Om} (N : Nat) (a0 : Nat) (x1 : Int32) (σ : Me) : Cor Ω tc12_text 140 0 0 [vR (some a0), vI x1] σ ιI (fc12_text N a0 x1 σ) := by
  refine Cor.of (by decide +kernel) (Nat.le_of_ble_eq_true rfl) (fun Γ hG => ?_)
  unfold fc12_text
  show Sim Ω Γ 0 0 ιI 4 0 [(0, vR (some a0)), (1, vI x1)] [] σ 0 0 _
  refine s_aload_n hG dc12_text_0 rfl ?_
  refine s_iconst (v := 0) hG dc12_text_1 (by decide) ?_
  refine s_putI (fin := false) hG kFc12_100 rfl (fun h => by cases h) rfl (fun _ => rfl) (fun _ => rfl) dc12_text_2 (fun σ2 => ?_)
  refine s_iload_n hG dc12_text_5 rfl ?_
  refine s_i2l hG dc12_text_6 ?_
  refine s_lconst (v := 0) hG dc12_text_7 (by decide) ?_
  refine s_ldc2 hG dc12_text_8 kJc12_271 ?_
  refine s_callSi hG kMc12_221 (corc12_isIn N _ _ _ _) rfl (by first | decide | omega) dc12_text_11 rfl rfl (Nat.le_of_ble_eq_true rfl) ⟨Nat.le_of_ble_eq_true rfl, Nat.le_of_ble_eq_true rfl⟩ (fun p11 => ?_)
  refine s_if_eq hG 52 dc12_text_14 (by decide) ?_ ?_
  · refine s_iconst (v := -1) hG dc12_text_52 (by decide) ?_
    exact s_iret hG dc12_text_53 rfl (Nat.le_of_ble_eq_true rfl) (Nat.le_of_ble_eq_true rfl)
  · refine s_iload_n hG dc12_text_17 rfl ?_
    refine s_iconst (v := 1) hG dc12_text_18 (by decide) ?_
    refine s_icmp_ne hG 30 dc12_text_19 (by decide) ?_ ?_
    · exact s_lv (lc rfl (lc rfl ln)) (pc12_text_30 hG _ _ _)
    · refine s_aload_n hG dc12_text_22 rfl ?_
      refine s_getI hG kFc12_282 rfl dc12_text_23 (fun v23 => ?_)
      refine s_iconst (v := 4) hG dc12_text_26 (by decide) ?_
      refine s_icmp_eq hG 52 dc12_text_27 (by decide) ?_ ?_
      · refine s_iconst (v := -1) hG dc12_text_52 (by decide) ?_
        exact s_iret hG dc12_text_53 rfl (Nat.le_of_ble_eq_true rfl) (Nat.le_of_ble_eq_true rfl)
      · exact s_lv (lc rfl (lc rfl ln)) (pc12_text_30 hG _ _ _)
def fc12_rule (N : Nat) (a0 : Nat) (x1 : Int32) (σ : Me) : Option (Int32 × Me) :=
  (pI σ 12 0 (some a0) (0 : Int32)).bind fun σ2 =>
  (qI σ2 12 24 (some a0)).bind fun v6 =>
  if v6 = 0 then
    some ((-1 : Int32), σ2)
  else
    (fc12_isIn N (Int32.toInt64 x1) (0 : Int64) (2 : Int64) σ2).bind fun p18 =>
    if p18.1 = 0 then
      some ((-1 : Int32), p18.2)
    else
      if x1 = (2 : Int32) then
        (qR p18.2 12 28 (some a0)).bind fun v32 =>
        (ldI p18.2 v32 (24 : Int32)).bind fun v37 =>
        some (v37, p18.2)
      else
        (qR p18.2 12 18 (some a0)).bind fun v42 =>
        (ldI p18.2 v42 x1).bind fun v46 =>
        some (v46, p18.2)
set_option maxRecDepth 20000 in
set_option maxHeartbeats 2000000 in
theorem corc12_rule {Ω : Om} (N : Nat) (a0 : Nat) (x1 : Int32) (σ : Me) : Cor Ω tc12_rule 2 0 0 [vR (some a0), vI x1] σ ιI (fc12_rule N a0 x1 σ) := by
  refine Cor.of (by decide +kernel) (Nat.le_of_ble_eq_true rfl) (fun Γ hG => ?_)
  unfold fc12_rule
  show Sim Ω Γ 0 0 ιI 2 0 [(0, vR (some a0)), (1, vI x1)] [] σ 0 0 _
  refine s_aload_n hG dc12_rule_0 rfl ?_
  refine s_iconst (v := 0) hG dc12_rule_1 (by decide) ?_
  refine s_putI (fin := false) hG kFc12_100 rfl (fun h => by cases h) rfl (fun _ => rfl) (fun _ => rfl) dc12_rule_2 (fun σ2 => ?_)
  refine s_aload_n hG dc12_rule_5 rfl ?_
  refine s_getI hG kFc12_290 rfl dc12_rule_6 (fun v6 => ?_)
  refine s_if_eq hG 24 dc12_rule_9 (by decide) ?_ ?_
  · refine s_iconst (v := -1) hG dc12_rule_24 (by decide) ?_
    exact s_iret hG dc12_rule_25 rfl (Nat.le_of_ble_eq_true rfl) (Nat.le_of_ble_eq_true rfl)
  · refine s_iload_n hG dc12_rule_12 rfl ?_
    refine s_i2l hG dc12_rule_13 ?_
    refine s_lconst (v := 0) hG dc12_rule_14 (by decide) ?_
    refine s_ldc2 hG dc12_rule_15 kJc12_271 ?_
    refine s_callSi hG kMc12_221 (corc12_isIn N _ _ _ _) rfl (by first | decide | omega) dc12_rule_18 rfl rfl (Nat.le_of_ble_eq_true rfl) ⟨Nat.le_of_ble_eq_true rfl, Nat.le_of_ble_eq_true rfl⟩ (fun p18 => ?_)
    refine s_if_ne hG 26 dc12_rule_21 (by decide) ?_ ?_
    · refine s_iload_n hG dc12_rule_26 rfl ?_
      refine s_iconst (v := 2) hG dc12_rule_27 (by decide) ?_
      refine s_icmp_ne hG 41 dc12_rule_28 (by decide) ?_ ?_
      · refine s_aload_n hG dc12_rule_41 rfl ?_
        refine s_getR hG kFc12_37 rfl dc12_rule_42 (fun v42 => ?_)
        refine s_iload_n hG dc12_rule_45 rfl ?_
        refine s_iald hG dc12_rule_46 (fun v46 => ?_)
        exact s_iret hG dc12_rule_47 rfl (Nat.le_of_ble_eq_true rfl) (Nat.le_of_ble_eq_true rfl)
      · refine s_aload_n hG dc12_rule_31 rfl ?_
        refine s_getR hG kFc12_55 rfl dc12_rule_32 (fun v32 => ?_)
        refine s_bipush (v := 24) hG dc12_rule_35 (by decide) ?_
        refine s_iald hG dc12_rule_37 (fun v37 => ?_)
        refine s_goto hG 47 dc12_rule_38 (by decide) ?_
        exact s_iret hG dc12_rule_47 rfl (Nat.le_of_ble_eq_true rfl) (Nat.le_of_ble_eq_true rfl)
    · refine s_iconst (v := -1) hG dc12_rule_24 (by decide) ?_
      exact s_iret hG dc12_rule_25 rfl (Nat.le_of_ble_eq_true rfl) (Nat.le_of_ble_eq_true rfl)
def fc12_isField (N : Nat) (a0 : Nat) (x1 : Int32) (σ : Me) : Option (Int32 × Me) :=
  if x1 < 0 then
    retZ (0 : Int32) σ
  else
    (qI σ 12 24 (some a0)).bind fun v6 =>
    if v6 ≤ x1 then
      retZ (0 : Int32) σ
    else
      retZ (1 : Int32) σ
set_option maxRecDepth 20000 in
set_option maxHeartbeats 2000000 in
theorem corc12_isField {Ω : Om} (N : Nat) (a0 : Nat) (x1 : Int32) (σ : Me) : Cor Ω tc12_isField 1 0 0 [vR (some a0), vI x1] σ ιI (fc12_isField N a0 x1 σ) := by
  refine Cor.of (by decide +kernel) (Nat.le_of_ble_eq_true rfl) (fun Γ hG => ?_)
  unfold fc12_isField
  show Sim Ω Γ 0 0 ιI 2 0 [(0, vR (some a0)), (1, vI x1)] [] σ 0 0 _
  refine s_iload_n hG dc12_isField_0 rfl ?_
  refine s_if_lt hG 16 dc12_isField_1 (by decide) ?_ ?_
  · refine s_iconst (v := 0) hG dc12_isField_16 (by decide) ?_
    exact s_zret hG dc12_isField_17 rfl (Nat.le_of_ble_eq_true rfl) (Nat.le_of_ble_eq_true rfl)
  · refine s_iload_n hG dc12_isField_4 rfl ?_
    refine s_aload_n hG dc12_isField_5 rfl ?_
    refine s_getI hG kFc12_290 rfl dc12_isField_6 (fun v6 => ?_)
    refine s_icmp_ge hG 16 dc12_isField_9 (by decide) ?_ ?_
    · refine s_iconst (v := 0) hG dc12_isField_16 (by decide) ?_
      exact s_zret hG dc12_isField_17 rfl (Nat.le_of_ble_eq_true rfl) (Nat.le_of_ble_eq_true rfl)
    · refine s_iconst (v := 1) hG dc12_isField_12 (by decide) ?_
      refine s_goto hG 17 dc12_isField_13 (by decide) ?_
      exact s_zret hG dc12_isField_17 rfl (Nat.le_of_ble_eq_true rfl) (Nat.le_of_ble_eq_true rfl)
def fc12_value (N : Nat) (a0 : Nat) (x1 : Int32) (σ : Me) : Option (Int32 × Me) :=
  (qR σ 12 20 (some a0)).bind fun v1 =>
  (ldI σ v1 (((5 : Int32) * x1) + (3 : Int32))).bind fun v9 =>
  some (v9, σ)
set_option maxRecDepth 20000 in
set_option maxHeartbeats 2000000 in
theorem corc12_value {Ω : Om} (N : Nat) (a0 : Nat) (x1 : Int32) (σ : Me) : Cor Ω tc12_value 1 0 0 [vR (some a0), vI x1] σ ιI (fc12_value N a0 x1 σ) := by
  refine Cor.of (by decide +kernel) (Nat.le_of_ble_eq_true rfl) (fun Γ hG => ?_)
  unfold fc12_value
  show Sim Ω Γ 0 0 ιI 2 0 [(0, vR (some a0)), (1, vI x1)] [] σ 0 0 _
  refine s_aload_n hG dc12_value_0 rfl ?_
  refine s_getR hG kFc12_43 rfl dc12_value_1 (fun v1 => ?_)
  refine s_iconst (v := 5) hG dc12_value_4 (by decide) ?_
  refine s_iload_n hG dc12_value_5 rfl ?_
  refine s_imul hG dc12_value_6 ?_
  refine s_iconst (v := 3) hG dc12_value_7 (by decide) ?_
  refine s_iadd hG dc12_value_8 ?_
  refine s_iald hG dc12_value_9 (fun v9 => ?_)
  exact s_iret hG dc12_value_10 rfl (Nat.le_of_ble_eq_true rfl) (Nat.le_of_ble_eq_true rfl)
def fc12_field_26 (N : Nat) (l0 : Option Nat) (l1 : Int32) (l2 : Int32) (s0 : Option Nat) (s1 : Int32) (σ : Me) : Option (Int32 × Me) :=
  (pI σ 12 0 s0 s1).bind fun σ26 =>
  (qI σ26 12 0 l0).bind fun v30 =>
  if v30 ≤ 0 then
    if l2 = (3 : Int32) then
      (dr σ26 l0 (.inl 12)).bind fun a =>
      (fc12_value N a l1 σ26).bind fun p45 =>
      some (p45.1, p45.2)
    else
      if l2 = (4 : Int32) then
        (qR σ26 12 28 l0).bind fun v57 =>
        (ldI σ26 v57 (((4 : Int32) * l1) + (3 : Int32))).bind fun v65 =>
        some (v65, σ26)
      else
        (qR σ26 12 28 l0).bind fun v70 =>
        (ldI σ26 v70 (((4 : Int32) * l1) + l2)).bind fun v78 =>
        some (v78, σ26)
  else
    some ((0 : Int32), σ26)
def fc12_field_25 (N : Nat) (l0 : Option Nat) (l1 : Int32) (l2 : Int32) (s0 : Option Nat) (σ : Me) : Option (Int32 × Me) :=
  fc12_field_26 N l0 l1 l2 s0 (1 : Int32) σ
def fc12_field (N : Nat) (a0 : Nat) (x1 : Int32) (x2 : Int32) (σ : Me) : Option (Int32 × Me) :=
  (dr σ (some a0) (.inl 12)).bind fun a =>
  (fc12_isField N a x1 σ).bind fun p3 =>
  if p3.1 = 0 then
    fc12_field_25 N (some a0) x1 x2 (some a0) p3.2
  else
    (fc12_isIn N (Int32.toInt64 x2) (0 : Int64) (4 : Int64) p3.2).bind fun p15 =>
    if p15.1 = 0 then
      fc12_field_25 N (some a0) x1 x2 (some a0) p15.2
    else
      fc12_field_26 N (some a0) x1 x2 (some a0) (0 : Int32) p15.2
set_option maxRecDepth 20000 in
set_option maxHeartbeats 2000000 in
theorem pc12_field_26 {Ω : Om} {Γ : Ga} {N : Nat} (hG : Good Ω Γ tc12_field 2 0 0) (l0 : Option Nat) (l1 : Int32) (l2 : Int32) (s0 : Option Nat) (s1 : Int32) (σ : Me) : Sim Ω Γ 0 0 ιI 3 26 [(0, vR l0), (1, vI l1), (2, vI l2)] [vI s1, vR s0] σ 0 0 (fc12_field_26 N l0 l1 l2 s0 s1 σ) := by
  unfold fc12_field_26
  refine s_putI (fin := false) hG kFc12_100 rfl (fun h => by cases h) rfl (fun _ => rfl) (fun _ => rfl) dc12_field_26 (fun σ26 => ?_)
  refine s_aload_n hG dc12_field_29 rfl ?_
  refine s_getI hG kFc12_100 rfl dc12_field_30 (fun v30 => ?_)
  refine s_if_le hG 38 dc12_field_33 (by decide) ?_ ?_
  · refine s_iload_n hG dc12_field_38 rfl ?_
    refine s_iconst (v := 3) hG dc12_field_39 (by decide) ?_
    refine s_icmp_ne hG 51 dc12_field_40 (by decide) ?_ ?_
    · refine s_iload_n hG dc12_field_51 rfl ?_
      refine s_iconst (v := 4) hG dc12_field_52 (by decide) ?_
      refine s_icmp_ne hG 69 dc12_field_53 (by decide) ?_ ?_
      · refine s_aload_n hG dc12_field_69 rfl ?_
        refine s_getR hG kFc12_55 rfl dc12_field_70 (fun v70 => ?_)
        refine s_iconst (v := 4) hG dc12_field_73 (by decide) ?_
        refine s_iload_n hG dc12_field_74 rfl ?_
        refine s_imul hG dc12_field_75 ?_
        refine s_iload_n hG dc12_field_76 rfl ?_
        refine s_iadd hG dc12_field_77 ?_
        refine s_iald hG dc12_field_78 (fun v78 => ?_)
        exact s_iret hG dc12_field_79 rfl (Nat.le_of_ble_eq_true rfl) (Nat.le_of_ble_eq_true rfl)
      · refine s_aload_n hG dc12_field_56 rfl ?_
        refine s_getR hG kFc12_55 rfl dc12_field_57 (fun v57 => ?_)
        refine s_iconst (v := 4) hG dc12_field_60 (by decide) ?_
        refine s_iload_n hG dc12_field_61 rfl ?_
        refine s_imul hG dc12_field_62 ?_
        refine s_iconst (v := 3) hG dc12_field_63 (by decide) ?_
        refine s_iadd hG dc12_field_64 ?_
        refine s_iald hG dc12_field_65 (fun v65 => ?_)
        refine s_goto hG 79 dc12_field_66 (by decide) ?_
        exact s_iret hG dc12_field_79 rfl (Nat.le_of_ble_eq_true rfl) (Nat.le_of_ble_eq_true rfl)
    · refine s_aload_n hG dc12_field_43 rfl ?_
      refine s_iload_n hG dc12_field_44 rfl ?_
      refine s_callVi hG kMc12_318 (fun a => corc12_value N a _ _) ⟨by decide, rfl⟩ rfl (by first | decide | omega) dc12_field_45 rfl rfl (Nat.le_of_ble_eq_true rfl) ⟨Nat.le_of_ble_eq_true rfl, Nat.le_of_ble_eq_true rfl⟩ (fun p45 => ?_)
      refine s_goto hG 79 dc12_field_48 (by decide) ?_
      exact s_iret hG dc12_field_79 rfl (Nat.le_of_ble_eq_true rfl) (Nat.le_of_ble_eq_true rfl)
  · refine s_iconst (v := 0) hG dc12_field_36 (by decide) ?_
    exact s_iret hG dc12_field_37 rfl (Nat.le_of_ble_eq_true rfl) (Nat.le_of_ble_eq_true rfl)
set_option maxRecDepth 20000 in
set_option maxHeartbeats 2000000 in
theorem pc12_field_25 {Ω : Om} {Γ : Ga} {N : Nat} (hG : Good Ω Γ tc12_field 2 0 0) (l0 : Option Nat) (l1 : Int32) (l2 : Int32) (s0 : Option Nat) (σ : Me) : Sim Ω Γ 0 0 ιI 3 25 [(0, vR l0), (1, vI l1), (2, vI l2)] [vR s0] σ 0 0 (fc12_field_25 N l0 l1 l2 s0 σ) := by
  unfold fc12_field_25
  refine s_iconst (v := 1) hG dc12_field_25 (by decide) ?_
  exact s_lv (lc rfl (lc rfl (lc rfl ln))) (pc12_field_26 hG _ _ _ _ _ _)
set_option maxRecDepth 20000 in
set_option maxHeartbeats 2000000 in
theorem corc12_field {Ω : Om} (N : Nat) (a0 : Nat) (x1 : Int32) (x2 : Int32) (σ : Me) : Cor Ω tc12_field 2 0 0 [vR (some a0), vI x1, vI x2] σ ιI (fc12_field N a0 x1 x2 σ) := by
  refine Cor.of (by decide +kernel) (Nat.le_of_ble_eq_true rfl) (fun Γ hG => ?_)
  unfold fc12_field
  show Sim Ω Γ 0 0 ιI 3 0 [(0, vR (some a0)), (1, vI x1), (2, vI x2)] [] σ 0 0 _
  refine s_aload_n hG dc12_field_0 rfl ?_
  refine s_aload_n hG dc12_field_1 rfl ?_
  refine s_iload_n hG dc12_field_2 rfl ?_
  refine s_callVi hG kMc12_353 (fun a => corc12_isField N a _ _) ⟨by decide, rfl⟩ rfl (by first | decide | omega) dc12_field_3 rfl rfl (Nat.le_of_ble_eq_true rfl) ⟨Nat.le_of_ble_eq_true rfl, Nat.le_of_ble_eq_true rfl⟩ (fun p3 => ?_)
  refine s_if_eq hG 25 dc12_field_6 (by decide) ?_ ?_
  · exact s_lv (lc rfl (lc rfl (lc rfl ln))) (pc12_field_25 hG _ _ _ _ _)
  · refine s_iload_n hG dc12_field_9 rfl ?_
    refine s_i2l hG dc12_field_10 ?_
    refine s_lconst (v := 0) hG dc12_field_11 (by decide) ?_
    refine s_ldc2 hG dc12_field_12 kJc12_356 ?_
    refine s_callSi hG kMc12_221 (corc12_isIn N _ _ _ _) rfl (by first | decide | omega) dc12_field_15 rfl rfl (Nat.le_of_ble_eq_true rfl) ⟨Nat.le_of_ble_eq_true rfl, Nat.le_of_ble_eq_true rfl⟩ (fun p15 => ?_)
    refine s_if_eq hG 25 dc12_field_18 (by decide) ?_ ?_
    · exact s_lv (lc rfl (lc rfl (lc rfl ln))) (pc12_field_25 hG _ _ _ _ _)
    · refine s_iconst (v := 0) hG dc12_field_21 (by decide) ?_
      refine s_goto hG 26 dc12_field_22 (by decide) ?_
      exact s_lv (lc rfl (lc rfl (lc rfl ln))) (pc12_field_26 hG _ _ _ _ _ _)
def fc12_law_28 (N : Nat) (l0 : Option Nat) (l1 : Int32) (σ : Me) : Option (Int32 × Me) :=
  (pI σ 12 30 l0 l1).bind fun σ30 =>
  retZ (1 : Int32) σ30
def fc12_law (N : Nat) (a0 : Nat) (x1 : Int32) (σ : Me) : Option (Int32 × Me) :=
  (pI σ 12 0 (some a0) (0 : Int32)).bind fun σ2 =>
  if x1 = (-1 : Int32) then
    fc12_law_28 N (some a0) x1 σ2
  else
    (qI σ2 12 7 (some a0)).bind fun v14 =>
    (fc12_isIn N (Int32.toInt64 x1) (0 : Int64) (Int32.toInt64 (v14 - (1 : Int32))) σ2).bind fun p20 =>
    if p20.1 = 0 then
      retZ (0 : Int32) p20.2
    else
      fc12_law_28 N (some a0) x1 p20.2
set_option maxRecDepth 20000 in
set_option maxHeartbeats 2000000 in
theorem pc12_law_28 {Ω : Om} {Γ : Ga} {N : Nat} (hG : Good Ω Γ tc12_law 2 0 0) (l0 : Option Nat) (l1 : Int32) (σ : Me) : Sim Ω Γ 0 0 ιI 2 28 [(0, vR l0), (1, vI l1)] [] σ 0 0 (fc12_law_28 N l0 l1 σ) := by
  unfold fc12_law_28
  refine s_aload_n hG dc12_law_28 rfl ?_
  refine s_iload_n hG dc12_law_29 rfl ?_
  refine s_putI (fin := false) hG kFc12_61 rfl (fun h => by cases h) rfl (fun _ => rfl) (fun _ => rfl) dc12_law_30 (fun σ30 => ?_)
  refine s_iconst (v := 1) hG dc12_law_33 (by decide) ?_
  exact s_zret hG dc12_law_34 rfl (Nat.le_of_ble_eq_true rfl) (Nat.le_of_ble_eq_true rfl)
set_option maxRecDepth 20000 in
set_option maxHeartbeats 2000000 in
theorem corc12_law {Ω : Om} (N : Nat) (a0 : Nat) (x1 : Int32) (σ : Me) : Cor Ω tc12_law 2 0 0 [vR (some a0), vI x1] σ ιI (fc12_law N a0 x1 σ) := by
  refine Cor.of (by decide +kernel) (Nat.le_of_ble_eq_true rfl) (fun Γ hG => ?_)
  unfold fc12_law
  show Sim Ω Γ 0 0 ιI 2 0 [(0, vR (some a0)), (1, vI x1)] [] σ 0 0 _
  refine s_aload_n hG dc12_law_0 rfl ?_
  refine s_iconst (v := 0) hG dc12_law_1 (by decide) ?_
  refine s_putI (fin := false) hG kFc12_100 rfl (fun h => by cases h) rfl (fun _ => rfl) (fun _ => rfl) dc12_law_2 (fun σ2 => ?_)
  refine s_iload_n hG dc12_law_5 rfl ?_
  refine s_iconst (v := -1) hG dc12_law_6 (by decide) ?_
  refine s_icmp_eq hG 28 dc12_law_7 (by decide) ?_ ?_
  · exact s_lv (lc rfl (lc rfl ln)) (pc12_law_28 hG _ _ _)
  · refine s_iload_n hG dc12_law_10 rfl ?_
    refine s_i2l hG dc12_law_11 ?_
    refine s_lconst (v := 0) hG dc12_law_12 (by decide) ?_
    refine s_aload_n hG dc12_law_13 rfl ?_
    refine s_getI hG kFc12_282 rfl dc12_law_14 (fun v14 => ?_)
    refine s_iconst (v := 1) hG dc12_law_17 (by decide) ?_
    refine s_isub hG dc12_law_18 ?_
    refine s_i2l hG dc12_law_19 ?_
    refine s_callSi hG kMc12_221 (corc12_isIn N _ _ _ _) rfl (by first | decide | omega) dc12_law_20 rfl rfl (Nat.le_of_ble_eq_true rfl) ⟨Nat.le_of_ble_eq_true rfl, Nat.le_of_ble_eq_true rfl⟩ (fun p20 => ?_)
    refine s_if_ne hG 28 dc12_law_23 (by decide) ?_ ?_
    · exact s_lv (lc rfl (lc rfl ln)) (pc12_law_28 hG _ _ _)
    · refine s_iconst (v := 0) hG dc12_law_26 (by decide) ?_
      exact s_zret hG dc12_law_27 rfl (Nat.le_of_ble_eq_true rfl) (Nat.le_of_ble_eq_true rfl)
def fc12_heresy (N : Nat) (a0 : Nat) (x1 : Int32) (σ : Me) : Option (Int32 × Me) :=
  (pI σ 12 0 (some a0) (0 : Int32)).bind fun σ2 =>
  (fc12_isIn N (Int32.toInt64 x1) (0 : Int64) (9 : Int64) σ2).bind fun p11 =>
  if p11.1 = 0 then
    retZ (0 : Int32) p11.2
  else
    (qI p11.2 12 31 (some a0)).bind fun v19 =>
    if x1 = v19 then
      retZ (0 : Int32) p11.2
    else
      (pI p11.2 12 31 (some a0) x1).bind fun σ29 =>
      retZ (1 : Int32) σ29
set_option maxRecDepth 20000 in
set_option maxHeartbeats 2000000 in
theorem corc12_heresy {Ω : Om} (N : Nat) (a0 : Nat) (x1 : Int32) (σ : Me) : Cor Ω tc12_heresy 2 0 0 [vR (some a0), vI x1] σ ιI (fc12_heresy N a0 x1 σ) := by
  refine Cor.of (by decide +kernel) (Nat.le_of_ble_eq_true rfl) (fun Γ hG => ?_)
  unfold fc12_heresy
  show Sim Ω Γ 0 0 ιI 2 0 [(0, vR (some a0)), (1, vI x1)] [] σ 0 0 _
  refine s_aload_n hG dc12_heresy_0 rfl ?_
  refine s_iconst (v := 0) hG dc12_heresy_1 (by decide) ?_
  refine s_putI (fin := false) hG kFc12_100 rfl (fun h => by cases h) rfl (fun _ => rfl) (fun _ => rfl) dc12_heresy_2 (fun σ2 => ?_)
  refine s_iload_n hG dc12_heresy_5 rfl ?_
  refine s_i2l hG dc12_heresy_6 ?_
  refine s_lconst (v := 0) hG dc12_heresy_7 (by decide) ?_
  refine s_ldc2 hG dc12_heresy_8 kJc12_358 ?_
  refine s_callSi hG kMc12_221 (corc12_isIn N _ _ _ _) rfl (by first | decide | omega) dc12_heresy_11 rfl rfl (Nat.le_of_ble_eq_true rfl) ⟨Nat.le_of_ble_eq_true rfl, Nat.le_of_ble_eq_true rfl⟩ (fun p11 => ?_)
  refine s_if_eq hG 25 dc12_heresy_14 (by decide) ?_ ?_
  · refine s_iconst (v := 0) hG dc12_heresy_25 (by decide) ?_
    exact s_zret hG dc12_heresy_26 rfl (Nat.le_of_ble_eq_true rfl) (Nat.le_of_ble_eq_true rfl)
  · refine s_iload_n hG dc12_heresy_17 rfl ?_
    refine s_aload_n hG dc12_heresy_18 rfl ?_
    refine s_getI hG kFc12_360 rfl dc12_heresy_19 (fun v19 => ?_)
    refine s_icmp_ne hG 27 dc12_heresy_22 (by decide) ?_ ?_
    · refine s_aload_n hG dc12_heresy_27 rfl ?_
      refine s_iload_n hG dc12_heresy_28 rfl ?_
      refine s_putI (fin := false) hG kFc12_360 rfl (fun h => by cases h) rfl (fun _ => rfl) (fun _ => rfl) dc12_heresy_29 (fun σ29 => ?_)
      refine s_iconst (v := 1) hG dc12_heresy_32 (by decide) ?_
      exact s_zret hG dc12_heresy_33 rfl (Nat.le_of_ble_eq_true rfl) (Nat.le_of_ble_eq_true rfl)
    · refine s_iconst (v := 0) hG dc12_heresy_25 (by decide) ?_
      exact s_zret hG dc12_heresy_26 rfl (Nat.le_of_ble_eq_true rfl) (Nat.le_of_ble_eq_true rfl)
def fc12_nextIn_49 (N : Nat) (K5 : Option Nat → Option Nat → Int32 → Int32 → Int32 → Me → Option (Int32 × Me)) (l0 : Option Nat) (l1 : Option Nat) (l2 : Int32) (l3 : Int32) (l4 : Int32) (σ : Me) : Option (Int32 × Me) :=
  K5 l0 l1 l2 l3 (l4 + (1 : Int32)) σ
def fc12_nextIn_46 (N : Nat) (K5 : Option Nat → Option Nat → Int32 → Int32 → Int32 → Me → Option (Int32 × Me)) (l0 : Option Nat) (l1 : Option Nat) (l2 : Int32) (l4 : Int32) (σ : Me) : Option (Int32 × Me) :=
  fc12_nextIn_49 N K5 l0 l1 l2 l4 l4 σ
def fc12_nextIn_5 (N : Nat) : Nat → Option Nat → Option Nat → Int32 → Int32 → Int32 → Me → Option (Int32 × Me)
  | 0, _, _, _, _, _, _ => none
  | n + 1, l0, l1, l2, l3, l4, σ =>
    (qI σ 12 24 l0).bind fun v8 =>
    if v8 ≤ l4 then
      some (l3, σ)
    else
      (fc12_has N l2 l4 σ).bind fun p17 =>
      if p17.1 = 0 then
        if l3 = (-1 : Int32) then
          fc12_nextIn_46 N (fc12_nextIn_5 N n) l0 l1 l2 l4 p17.2
        else
          (ldI p17.2 l1 (((4 : Int32) * l4) + (0 : Int32))).bind fun v35 =>
          (ldI p17.2 l1 (((4 : Int32) * l3) + (0 : Int32))).bind fun v42 =>
          if v35 ≤ v42 then
            fc12_nextIn_49 N (fc12_nextIn_5 N n) l0 l1 l2 l3 l4 p17.2
          else
            fc12_nextIn_46 N (fc12_nextIn_5 N n) l0 l1 l2 l4 p17.2
      else
        fc12_nextIn_49 N (fc12_nextIn_5 N n) l0 l1 l2 l3 l4 p17.2
def fc12_nextIn (N : Nat) (a0 : Nat) (x1 : Option Nat) (x2 : Int32) (σ : Me) : Option (Int32 × Me) :=
  fc12_nextIn_5 N N (some a0) x1 x2 (-1 : Int32) (0 : Int32) σ
set_option maxRecDepth 20000 in
set_option maxHeartbeats 2000000 in
theorem pc12_nextIn_49 {Ω : Om} {Γ : Ga} {N : Nat} (hG : Good Ω Γ tc12_nextIn 2 0 0) {K5 : Option Nat → Option Nat → Int32 → Int32 → Int32 → Me → Option (Int32 × Me)} (hK5 : ∀ (l0 : Option Nat) (l1 : Option Nat) (l2 : Int32) (l3 : Int32) (l4 : Int32) (σ : Me), Sim Ω Γ 0 0 ιI 5 5 [(0, vR l0), (1, vR l1), (2, vI l2), (3, vI l3), (4, vI l4)] [] σ 0 0 (K5 l0 l1 l2 l3 l4 σ)) (l0 : Option Nat) (l1 : Option Nat) (l2 : Int32) (l3 : Int32) (l4 : Int32) (σ : Me) : Sim Ω Γ 0 0 ιI 5 49 [(0, vR l0), (1, vR l1), (2, vI l2), (3, vI l3), (4, vI l4)] [] σ 0 0 (fc12_nextIn_49 N K5 l0 l1 l2 l3 l4 σ) := by
  unfold fc12_nextIn_49
  refine s_iinc (v := 1) hG dc12_nextIn_49 rfl (by decide) (by decide) ?_
  refine s_goto hG 5 dc12_nextIn_52 (by decide) ?_
  exact s_lv (lc rfl (lc rfl (lc rfl (lc rfl (lc rfl ln))))) (hK5 _ _ _ _ _ _)
set_option maxRecDepth 20000 in
set_option maxHeartbeats 2000000 in
theorem pc12_nextIn_46 {Ω : Om} {Γ : Ga} {N : Nat} (hG : Good Ω Γ tc12_nextIn 2 0 0) {K5 : Option Nat → Option Nat → Int32 → Int32 → Int32 → Me → Option (Int32 × Me)} (hK5 : ∀ (l0 : Option Nat) (l1 : Option Nat) (l2 : Int32) (l3 : Int32) (l4 : Int32) (σ : Me), Sim Ω Γ 0 0 ιI 5 5 [(0, vR l0), (1, vR l1), (2, vI l2), (3, vI l3), (4, vI l4)] [] σ 0 0 (K5 l0 l1 l2 l3 l4 σ)) (l0 : Option Nat) (l1 : Option Nat) (l2 : Int32) (l4 : Int32) (σ : Me) : Sim Ω Γ 0 0 ιI 5 46 [(0, vR l0), (1, vR l1), (2, vI l2), (4, vI l4)] [] σ 0 0 (fc12_nextIn_46 N K5 l0 l1 l2 l4 σ) := by
  unfold fc12_nextIn_46
  refine s_iload hG dc12_nextIn_46 rfl ?_
  refine s_istore_n hG dc12_nextIn_48 (by decide) ?_
  exact s_lv (lc rfl (lc rfl (lc rfl (lc rfl (lc rfl ln))))) (pc12_nextIn_49 hG hK5 _ _ _ _ _ _)
set_option maxRecDepth 20000 in
set_option maxHeartbeats 2000000 in
theorem pc12_nextIn_5 {Ω : Om} {Γ : Ga} {N : Nat} (hG : Good Ω Γ tc12_nextIn 2 0 0)  : ∀ (n : Nat) (l0 : Option Nat) (l1 : Option Nat) (l2 : Int32) (l3 : Int32) (l4 : Int32) (σ : Me), Sim Ω Γ 0 0 ιI 5 5 [(0, vR l0), (1, vR l1), (2, vI l2), (3, vI l3), (4, vI l4)] [] σ 0 0 (fc12_nextIn_5 N n l0 l1 l2 l3 l4 σ) := by
  intro n
  induction n with
  | zero => intros; exact s_none
  | succ n ih =>
    intro l0 l1 l2 l3 l4 σ
    unfold fc12_nextIn_5
    refine s_iload hG dc12_nextIn_5 rfl ?_
    refine s_aload_n hG dc12_nextIn_7 rfl ?_
    refine s_getI hG kFc12_290 rfl dc12_nextIn_8 (fun v8 => ?_)
    refine s_icmp_ge hG 55 dc12_nextIn_11 (by decide) ?_ ?_
    · refine s_iload_n hG dc12_nextIn_55 rfl ?_
      exact s_iret hG dc12_nextIn_56 rfl (Nat.le_of_ble_eq_true rfl) (Nat.le_of_ble_eq_true rfl)
    · refine s_iload_n hG dc12_nextIn_14 rfl ?_
      refine s_iload hG dc12_nextIn_15 rfl ?_
      refine s_callSi hG kMc12_233 (corc12_has N _ _ _) rfl (by first | decide | omega) dc12_nextIn_17 rfl rfl (Nat.le_of_ble_eq_true rfl) ⟨Nat.le_of_ble_eq_true rfl, Nat.le_of_ble_eq_true rfl⟩ (fun p17 => ?_)
      refine s_if_ne hG 49 dc12_nextIn_20 (by decide) ?_ ?_
      · exact s_lv (lc rfl (lc rfl (lc rfl (lc rfl (lc rfl ln))))) (pc12_nextIn_49 hG ih _ _ _ _ _ _)
      · refine s_iload_n hG dc12_nextIn_23 rfl ?_
        refine s_iconst (v := -1) hG dc12_nextIn_24 (by decide) ?_
        refine s_icmp_eq hG 46 dc12_nextIn_25 (by decide) ?_ ?_
        · exact s_lv (lc rfl (lc rfl (lc rfl (lc rfl ln)))) (pc12_nextIn_46 hG ih _ _ _ _ _)
        · refine s_aload_n hG dc12_nextIn_28 rfl ?_
          refine s_iconst (v := 4) hG dc12_nextIn_29 (by decide) ?_
          refine s_iload hG dc12_nextIn_30 rfl ?_
          refine s_imul hG dc12_nextIn_32 ?_
          refine s_iconst (v := 0) hG dc12_nextIn_33 (by decide) ?_
          refine s_iadd hG dc12_nextIn_34 ?_
          refine s_iald hG dc12_nextIn_35 (fun v35 => ?_)
          refine s_aload_n hG dc12_nextIn_36 rfl ?_
          refine s_iconst (v := 4) hG dc12_nextIn_37 (by decide) ?_
          refine s_iload_n hG dc12_nextIn_38 rfl ?_
          refine s_imul hG dc12_nextIn_39 ?_
          refine s_iconst (v := 0) hG dc12_nextIn_40 (by decide) ?_
          refine s_iadd hG dc12_nextIn_41 ?_
          refine s_iald hG dc12_nextIn_42 (fun v42 => ?_)
          refine s_icmp_le hG 49 dc12_nextIn_43 (by decide) ?_ ?_
          · exact s_lv (lc rfl (lc rfl (lc rfl (lc rfl (lc rfl ln))))) (pc12_nextIn_49 hG ih _ _ _ _ _ _)
          · exact s_lv (lc rfl (lc rfl (lc rfl (lc rfl ln)))) (pc12_nextIn_46 hG ih _ _ _ _ _)
set_option maxRecDepth 20000 in
set_option maxHeartbeats 2000000 in
theorem corc12_nextIn {Ω : Om} (N : Nat) (a0 : Nat) (x1 : Option Nat) (x2 : Int32) (σ : Me) : Cor Ω tc12_nextIn 2 0 0 [vR (some a0), vR x1, vI x2] σ ιI (fc12_nextIn N a0 x1 x2 σ) := by
  refine Cor.of (by decide +kernel) (Nat.le_of_ble_eq_true rfl) (fun Γ hG => ?_)
  unfold fc12_nextIn
  show Sim Ω Γ 0 0 ιI 5 0 [(0, vR (some a0)), (1, vR x1), (2, vI x2)] [] σ 0 0 _
  refine s_iconst (v := -1) hG dc12_nextIn_0 (by decide) ?_
  refine s_istore_n hG dc12_nextIn_1 (by decide) ?_
  refine s_iconst (v := 0) hG dc12_nextIn_2 (by decide) ?_
  refine s_istore hG dc12_nextIn_3 (by decide) ?_
  exact s_lv (lc rfl (lc rfl (lc rfl (lc rfl (lc rfl ln))))) (pc12_nextIn_5 hG _ _ _ _ _ _ _)
def fc12_worthNow (N : Nat) (a0 : Nat) (σ : Me) : Option (Int32 × Me) :=
  (qI σ 12 30 (some a0)).bind fun v2 =>
  (qR σ 12 4 (some a0)).bind fun v14 =>
  (ldI σ v14 (111 : Int32)).bind fun v19 =>
  (qR σ 12 4 (some a0)).bind fun v29 =>
  (ldI σ v29 (110 : Int32)).bind fun v34 =>
  (qR σ 12 4 (some a0)).bind fun v44 =>
  (ldI σ v44 (119 : Int32)).bind fun v49 =>
  (qR σ 12 4 (some a0)).bind fun v59 =>
  (ldI σ v59 (118 : Int32)).bind fun v64 =>
  (qR σ 12 4 (some a0)).bind fun v74 =>
  (ldI σ v74 (115 : Int32)).bind fun v79 =>
  (qR σ 12 4 (some a0)).bind fun v89 =>
  (ldI σ v89 (116 : Int32)).bind fun v94 =>
  (rmL (((2000 : Int64) * (((50 : Int64) * (((10 : Int64) * (((31 : Int64) * (((21 : Int64) * (((1000 : Int64) * ((1 : Int64) + (Int32.toInt64 v2))) + (Int32.toInt64 v19))) + (Int32.toInt64 v34))) + (Int32.toInt64 v49))) + (Int32.toInt64 v64))) + (Int32.toInt64 v79))) + (Int32.toInt64 v94)) (8191 : Int64)).bind fun v102 =>
  (qR σ 12 32 (some a0)).bind fun v106 =>
  (ldL σ v106 (Int64.toInt32 v102)).bind fun v110 =>
  if (lg_cmp v110 (((2000 : Int64) * (((50 : Int64) * (((10 : Int64) * (((31 : Int64) * (((21 : Int64) * (((1000 : Int64) * ((1 : Int64) + (Int32.toInt64 v2))) + (Int32.toInt64 v19))) + (Int32.toInt64 v34))) + (Int32.toInt64 v49))) + (Int32.toInt64 v64))) + (Int32.toInt64 v79))) + (Int32.toInt64 v94))) = 0 then
    (qR σ 12 33 (some a0)).bind fun v117 =>
    (ldI σ v117 (Int64.toInt32 v102)).bind fun v121 =>
    some (v121, σ)
  else
    (qR σ 12 2 (some a0)).bind fun v125 =>
    (qI σ 12 30 (some a0)).bind fun v132 =>
    (qR σ 12 3 (some a0)).bind fun v137 =>
    (qI σ 12 30 (some a0)).bind fun v141 =>
    (ldI σ v137 v141).bind fun v144 =>
    (dr σ (some a0) (.inl 12)).bind fun a =>
    (fc12_goThrough N a v125 ((240 : Int32) * v132) v144 σ).bind fun p145 =>
    (qR p145.2 12 32 (some a0)).bind fun v149 =>
    (stL p145.2 v149 (Int64.toInt32 v102) (((2000 : Int64) * (((50 : Int64) * (((10 : Int64) * (((31 : Int64) * (((21 : Int64) * (((1000 : Int64) * ((1 : Int64) + (Int32.toInt64 v2))) + (Int32.toInt64 v19))) + (Int32.toInt64 v34))) + (Int32.toInt64 v49))) + (Int32.toInt64 v64))) + (Int32.toInt64 v79))) + (Int32.toInt64 v94))).bind fun σ154 =>
    (qR σ154 12 33 (some a0)).bind fun v156 =>
    (qI σ154 12 14 (some a0)).bind fun v161 =>
    (stI σ154 v156 (Int64.toInt32 v102) v161).bind fun σ164 =>
    (qI σ164 12 14 (some a0)).bind fun v166 =>
    some (v166, σ164)
set_option maxRecDepth 20000 in
set_option maxHeartbeats 2000000 in
theorem corc12_worthNow {Ω : Om} (N : Nat) (a0 : Nat) (σ : Me) : Cor Ω tc12_worthNow 139 0 0 [vR (some a0)] σ ιI (fc12_worthNow N a0 σ) := by
  refine Cor.of (by decide +kernel) (Nat.le_of_ble_eq_true rfl) (fun Γ hG => ?_)
  unfold fc12_worthNow
  show Sim Ω Γ 0 0 ιI 4 0 [(0, vR (some a0))] [] σ 0 0 _
  refine s_lconst (v := 1) hG dc12_worthNow_0 (by decide) ?_
  refine s_aload_n hG dc12_worthNow_1 rfl ?_
  refine s_getI hG kFc12_61 rfl dc12_worthNow_2 (fun v2 => ?_)
  refine s_i2l hG dc12_worthNow_5 ?_
  refine s_ladd hG dc12_worthNow_6 ?_
  refine s_lstore_n hG dc12_worthNow_7 (by decide) ?_
  refine s_ldc2 hG dc12_worthNow_8 kJc12_304 ?_
  refine s_lload_n hG dc12_worthNow_11 rfl ?_
  refine s_lmul hG dc12_worthNow_12 ?_
  refine s_aload_n hG dc12_worthNow_13 rfl ?_
  refine s_getR hG kFc12_20 rfl dc12_worthNow_14 (fun v14 => ?_)
  refine s_bipush (v := 111) hG dc12_worthNow_17 (by decide) ?_
  refine s_iald hG dc12_worthNow_19 (fun v19 => ?_)
  refine s_i2l hG dc12_worthNow_20 ?_
  refine s_ladd hG dc12_worthNow_21 ?_
  refine s_lstore_n hG dc12_worthNow_22 (by decide) ?_
  refine s_ldc2 hG dc12_worthNow_23 kJc12_306 ?_
  refine s_lload_n hG dc12_worthNow_26 rfl ?_
  refine s_lmul hG dc12_worthNow_27 ?_
  refine s_aload_n hG dc12_worthNow_28 rfl ?_
  refine s_getR hG kFc12_20 rfl dc12_worthNow_29 (fun v29 => ?_)
  refine s_bipush (v := 110) hG dc12_worthNow_32 (by decide) ?_
  refine s_iald hG dc12_worthNow_34 (fun v34 => ?_)
  refine s_i2l hG dc12_worthNow_35 ?_
  refine s_ladd hG dc12_worthNow_36 ?_
  refine s_lstore_n hG dc12_worthNow_37 (by decide) ?_
  refine s_ldc2 hG dc12_worthNow_38 kJc12_308 ?_
  refine s_lload_n hG dc12_worthNow_41 rfl ?_
  refine s_lmul hG dc12_worthNow_42 ?_
  refine s_aload_n hG dc12_worthNow_43 rfl ?_
  refine s_getR hG kFc12_20 rfl dc12_worthNow_44 (fun v44 => ?_)
  refine s_bipush (v := 119) hG dc12_worthNow_47 (by decide) ?_
  refine s_iald hG dc12_worthNow_49 (fun v49 => ?_)
  refine s_i2l hG dc12_worthNow_50 ?_
  refine s_ladd hG dc12_worthNow_51 ?_
  refine s_lstore_n hG dc12_worthNow_52 (by decide) ?_
  refine s_ldc2 hG dc12_worthNow_53 kJc12_310 ?_
  refine s_lload_n hG dc12_worthNow_56 rfl ?_
  refine s_lmul hG dc12_worthNow_57 ?_
  refine s_aload_n hG dc12_worthNow_58 rfl ?_
  refine s_getR hG kFc12_20 rfl dc12_worthNow_59 (fun v59 => ?_)
  refine s_bipush (v := 118) hG dc12_worthNow_62 (by decide) ?_
  refine s_iald hG dc12_worthNow_64 (fun v64 => ?_)
  refine s_i2l hG dc12_worthNow_65 ?_
  refine s_ladd hG dc12_worthNow_66 ?_
  refine s_lstore_n hG dc12_worthNow_67 (by decide) ?_
  refine s_ldc2 hG dc12_worthNow_68 kJc12_312 ?_
  refine s_lload_n hG dc12_worthNow_71 rfl ?_
  refine s_lmul hG dc12_worthNow_72 ?_
  refine s_aload_n hG dc12_worthNow_73 rfl ?_
  refine s_getR hG kFc12_20 rfl dc12_worthNow_74 (fun v74 => ?_)
  refine s_bipush (v := 115) hG dc12_worthNow_77 (by decide) ?_
  refine s_iald hG dc12_worthNow_79 (fun v79 => ?_)
  refine s_i2l hG dc12_worthNow_80 ?_
  refine s_ladd hG dc12_worthNow_81 ?_
  refine s_lstore_n hG dc12_worthNow_82 (by decide) ?_
  refine s_ldc2 hG dc12_worthNow_83 kJc12_314 ?_
  refine s_lload_n hG dc12_worthNow_86 rfl ?_
  refine s_lmul hG dc12_worthNow_87 ?_
  refine s_aload_n hG dc12_worthNow_88 rfl ?_
  refine s_getR hG kFc12_20 rfl dc12_worthNow_89 (fun v89 => ?_)
  refine s_bipush (v := 116) hG dc12_worthNow_92 (by decide) ?_
  refine s_iald hG dc12_worthNow_94 (fun v94 => ?_)
  refine s_i2l hG dc12_worthNow_95 ?_
  refine s_ladd hG dc12_worthNow_96 ?_
  refine s_lstore_n hG dc12_worthNow_97 (by decide) ?_
  refine s_lload_n hG dc12_worthNow_98 rfl ?_
  refine s_ldc2 hG dc12_worthNow_99 kJc12_316 ?_
  refine s_lrem hG dc12_worthNow_102 (fun v102 => ?_)
  refine s_l2i hG dc12_worthNow_103 ?_
  refine s_istore_n hG dc12_worthNow_104 (by decide) ?_
  refine s_aload_n hG dc12_worthNow_105 rfl ?_
  refine s_getR hG kFc12_65 rfl dc12_worthNow_106 (fun v106 => ?_)
  refine s_iload_n hG dc12_worthNow_109 rfl ?_
  refine s_lald hG dc12_worthNow_110 (fun v110 => ?_)
  refine s_lload_n hG dc12_worthNow_111 rfl ?_
  refine s_lcmp hG dc12_worthNow_112 ?_
  refine s_if_ne hG 123 dc12_worthNow_113 (by decide) ?_ ?_
  · refine s_aload_n hG dc12_worthNow_123 rfl ?_
    refine s_aload_n hG dc12_worthNow_124 rfl ?_
    refine s_getR hG kFc12_13 rfl dc12_worthNow_125 (fun v125 => ?_)
    refine s_sipush (v := 240) hG dc12_worthNow_128 (by decide) ?_
    refine s_aload_n hG dc12_worthNow_131 rfl ?_
    refine s_getI hG kFc12_61 rfl dc12_worthNow_132 (fun v132 => ?_)
    refine s_imul hG dc12_worthNow_135 ?_
    refine s_aload_n hG dc12_worthNow_136 rfl ?_
    refine s_getR hG kFc12_16 rfl dc12_worthNow_137 (fun v137 => ?_)
    refine s_aload_n hG dc12_worthNow_140 rfl ?_
    refine s_getI hG kFc12_61 rfl dc12_worthNow_141 (fun v141 => ?_)
    refine s_iald hG dc12_worthNow_144 (fun v144 => ?_)
    refine s_callVv hG kMc12_276 (fun a => corc12_goThrough N a _ _ _ _) ⟨by decide, rfl⟩ rfl (by first | decide | omega) dc12_worthNow_145 rfl rfl (Nat.le_of_ble_eq_true rfl) ⟨Nat.le_of_ble_eq_true rfl, Nat.le_of_ble_eq_true rfl⟩ (fun p145 => ?_)
    refine s_aload_n hG dc12_worthNow_148 rfl ?_
    refine s_getR hG kFc12_65 rfl dc12_worthNow_149 (fun v149 => ?_)
    refine s_iload_n hG dc12_worthNow_152 rfl ?_
    refine s_lload_n hG dc12_worthNow_153 rfl ?_
    refine s_last hG dc12_worthNow_154 (fun σ154 => ?_)
    refine s_aload_n hG dc12_worthNow_155 rfl ?_
    refine s_getR hG kFc12_69 rfl dc12_worthNow_156 (fun v156 => ?_)
    refine s_iload_n hG dc12_worthNow_159 rfl ?_
    refine s_aload_n hG dc12_worthNow_160 rfl ?_
    refine s_getI hG kFc12_208 rfl dc12_worthNow_161 (fun v161 => ?_)
    refine s_iast hG dc12_worthNow_164 (fun σ164 => ?_)
    refine s_aload_n hG dc12_worthNow_165 rfl ?_
    refine s_getI hG kFc12_208 rfl dc12_worthNow_166 (fun v166 => ?_)
    exact s_iret hG dc12_worthNow_169 rfl (Nat.le_of_ble_eq_true rfl) (Nat.le_of_ble_eq_true rfl)
  · refine s_aload_n hG dc12_worthNow_116 rfl ?_
    refine s_getR hG kFc12_69 rfl dc12_worthNow_117 (fun v117 => ?_)
    refine s_iload_n hG dc12_worthNow_120 rfl ?_
    refine s_iald hG dc12_worthNow_121 (fun v121 => ?_)
    exact s_iret hG dc12_worthNow_122 rfl (Nat.le_of_ble_eq_true rfl) (Nat.le_of_ble_eq_true rfl)
def fc12_paid_98 (N : Nat) (l4 : Int32) (σ : Me) : Option (Int32 × Me) :=
  (fMt_min N (99 : Int32) l4 σ).bind fun p103 =>
  (fMt_max N (0 : Int32) p103.1 p103.2).bind fun p106 =>
  some (p106.1, p106.2)
def fc12_paid (N : Nat) (a0 : Nat) (x1 : Option Nat) (x2 : Int32) (x3 : Int32) (σ : Me) : Option (Int32 × Me) :=
  (ldI σ x1 (((4 : Int32) * x2) + (0 : Int32))).bind fun v6 =>
  (dvI v6 (2 : Int32)).bind fun v8 =>
  (qI σ 12 30 (some a0)).bind fun v12 =>
  if v12 = (-1 : Int32) then
    fc12_paid_98 N v8 σ
  else
    (qR σ 12 4 (some a0)).bind fun v20 =>
    (ldI σ x1 (((4 : Int32) * x2) + (0 : Int32))).bind fun v31 =>
    (stI σ v20 (111 : Int32) v31).bind fun σ32 =>
    (qR σ32 12 4 (some a0)).bind fun v34 =>
    (ldI σ32 x1 (((4 : Int32) * x2) + (1 : Int32))).bind fun v45 =>
    (stI σ32 v34 (110 : Int32) v45).bind fun σ46 =>
    (qR σ46 12 4 (some a0)).bind fun v48 =>
    (ldI σ46 x1 (((4 : Int32) * x2) + (2 : Int32))).bind fun v59 =>
    (stI σ46 v48 (119 : Int32) v59).bind fun σ60 =>
    (qR σ60 12 4 (some a0)).bind fun v62 =>
    (dr σ60 (some a0) (.inl 12)).bind fun a =>
    (fc12_value N a x2 σ60).bind fun p69 =>
    (stI p69.2 v62 (118 : Int32) p69.1).bind fun σ72 =>
    (qR σ72 12 4 (some a0)).bind fun v74 =>
    (stI σ72 v74 (115 : Int32) x3).bind fun σ80 =>
    (qR σ80 12 4 (some a0)).bind fun v82 =>
    (ldI σ80 x1 (25 : Int32)).bind fun v90 =>
    (stI σ80 v82 (116 : Int32) v90).bind fun σ91 =>
    (dr σ91 (some a0) (.inl 12)).bind fun a =>
    (fc12_worthNow N a σ91).bind fun p93 =>
    fc12_paid_98 N p93.1 p93.2
set_option maxRecDepth 20000 in
set_option maxHeartbeats 2000000 in
theorem pc12_paid_98 {Ω : Om} {Γ : Ga} {N : Nat} (hG : Good Ω Γ tc12_paid 140 0 0) (l4 : Int32) (σ : Me) : Sim Ω Γ 0 0 ιI 5 98 [(4, vI l4)] [] σ 0 0 (fc12_paid_98 N l4 σ) := by
  unfold fc12_paid_98
  refine s_iconst (v := 0) hG dc12_paid_98 (by decide) ?_
  refine s_bipush (v := 99) hG dc12_paid_99 (by decide) ?_
  refine s_iload hG dc12_paid_101 rfl ?_
  refine s_callSi hG kMc12_324 (corMt_min N _ _ _) rfl (by first | decide | omega) dc12_paid_103 rfl rfl (Nat.le_of_ble_eq_true rfl) ⟨Nat.le_of_ble_eq_true rfl, Nat.le_of_ble_eq_true rfl⟩ (fun p103 => ?_)
  refine s_callSi hG kMc12_326 (corMt_max N _ _ _) rfl (by first | decide | omega) dc12_paid_106 rfl rfl (Nat.le_of_ble_eq_true rfl) ⟨Nat.le_of_ble_eq_true rfl, Nat.le_of_ble_eq_true rfl⟩ (fun p106 => ?_)
  exact s_iret hG dc12_paid_109 rfl (Nat.le_of_ble_eq_true rfl) (Nat.le_of_ble_eq_true rfl)
set_option maxRecDepth 20000 in
set_option maxHeartbeats 2000000 in
theorem corc12_paid {Ω : Om} (N : Nat) (a0 : Nat) (x1 : Option Nat) (x2 : Int32) (x3 : Int32) (σ : Me) : Cor Ω tc12_paid 140 0 0 [vR (some a0), vR x1, vI x2, vI x3] σ ιI (fc12_paid N a0 x1 x2 x3 σ) := by
  refine Cor.of (by decide +kernel) (Nat.le_of_ble_eq_true rfl) (fun Γ hG => ?_)
  unfold fc12_paid
  show Sim Ω Γ 0 0 ιI 5 0 [(0, vR (some a0)), (1, vR x1), (2, vI x2), (3, vI x3)] [] σ 0 0 _
  refine s_aload_n hG dc12_paid_0 rfl ?_
  refine s_iconst (v := 4) hG dc12_paid_1 (by decide) ?_
  refine s_iload_n hG dc12_paid_2 rfl ?_
  refine s_imul hG dc12_paid_3 ?_
  refine s_iconst (v := 0) hG dc12_paid_4 (by decide) ?_
  refine s_iadd hG dc12_paid_5 ?_
  refine s_iald hG dc12_paid_6 (fun v6 => ?_)
  refine s_iconst (v := 2) hG dc12_paid_7 (by decide) ?_
  refine s_idiv hG dc12_paid_8 (fun v8 => ?_)
  refine s_istore hG dc12_paid_9 (by decide) ?_
  refine s_aload_n hG dc12_paid_11 rfl ?_
  refine s_getI hG kFc12_61 rfl dc12_paid_12 (fun v12 => ?_)
  refine s_iconst (v := -1) hG dc12_paid_15 (by decide) ?_
  refine s_icmp_eq hG 98 dc12_paid_16 (by decide) ?_ ?_
  · exact s_lv (lc rfl ln) (pc12_paid_98 hG _ _)
  · refine s_aload_n hG dc12_paid_19 rfl ?_
    refine s_getR hG kFc12_20 rfl dc12_paid_20 (fun v20 => ?_)
    refine s_bipush (v := 111) hG dc12_paid_23 (by decide) ?_
    refine s_aload_n hG dc12_paid_25 rfl ?_
    refine s_iconst (v := 4) hG dc12_paid_26 (by decide) ?_
    refine s_iload_n hG dc12_paid_27 rfl ?_
    refine s_imul hG dc12_paid_28 ?_
    refine s_iconst (v := 0) hG dc12_paid_29 (by decide) ?_
    refine s_iadd hG dc12_paid_30 ?_
    refine s_iald hG dc12_paid_31 (fun v31 => ?_)
    refine s_iast hG dc12_paid_32 (fun σ32 => ?_)
    refine s_aload_n hG dc12_paid_33 rfl ?_
    refine s_getR hG kFc12_20 rfl dc12_paid_34 (fun v34 => ?_)
    refine s_bipush (v := 110) hG dc12_paid_37 (by decide) ?_
    refine s_aload_n hG dc12_paid_39 rfl ?_
    refine s_iconst (v := 4) hG dc12_paid_40 (by decide) ?_
    refine s_iload_n hG dc12_paid_41 rfl ?_
    refine s_imul hG dc12_paid_42 ?_
    refine s_iconst (v := 1) hG dc12_paid_43 (by decide) ?_
    refine s_iadd hG dc12_paid_44 ?_
    refine s_iald hG dc12_paid_45 (fun v45 => ?_)
    refine s_iast hG dc12_paid_46 (fun σ46 => ?_)
    refine s_aload_n hG dc12_paid_47 rfl ?_
    refine s_getR hG kFc12_20 rfl dc12_paid_48 (fun v48 => ?_)
    refine s_bipush (v := 119) hG dc12_paid_51 (by decide) ?_
    refine s_aload_n hG dc12_paid_53 rfl ?_
    refine s_iconst (v := 4) hG dc12_paid_54 (by decide) ?_
    refine s_iload_n hG dc12_paid_55 rfl ?_
    refine s_imul hG dc12_paid_56 ?_
    refine s_iconst (v := 2) hG dc12_paid_57 (by decide) ?_
    refine s_iadd hG dc12_paid_58 ?_
    refine s_iald hG dc12_paid_59 (fun v59 => ?_)
    refine s_iast hG dc12_paid_60 (fun σ60 => ?_)
    refine s_aload_n hG dc12_paid_61 rfl ?_
    refine s_getR hG kFc12_20 rfl dc12_paid_62 (fun v62 => ?_)
    refine s_bipush (v := 118) hG dc12_paid_65 (by decide) ?_
    refine s_aload_n hG dc12_paid_67 rfl ?_
    refine s_iload_n hG dc12_paid_68 rfl ?_
    refine s_callVi hG kMc12_318 (fun a => corc12_value N a _ _) ⟨by decide, rfl⟩ rfl (by first | decide | omega) dc12_paid_69 rfl rfl (Nat.le_of_ble_eq_true rfl) ⟨Nat.le_of_ble_eq_true rfl, Nat.le_of_ble_eq_true rfl⟩ (fun p69 => ?_)
    refine s_iast hG dc12_paid_72 (fun σ72 => ?_)
    refine s_aload_n hG dc12_paid_73 rfl ?_
    refine s_getR hG kFc12_20 rfl dc12_paid_74 (fun v74 => ?_)
    refine s_bipush (v := 115) hG dc12_paid_77 (by decide) ?_
    refine s_iload_n hG dc12_paid_79 rfl ?_
    refine s_iast hG dc12_paid_80 (fun σ80 => ?_)
    refine s_aload_n hG dc12_paid_81 rfl ?_
    refine s_getR hG kFc12_20 rfl dc12_paid_82 (fun v82 => ?_)
    refine s_bipush (v := 116) hG dc12_paid_85 (by decide) ?_
    refine s_aload_n hG dc12_paid_87 rfl ?_
    refine s_bipush (v := 25) hG dc12_paid_88 (by decide) ?_
    refine s_iald hG dc12_paid_90 (fun v90 => ?_)
    refine s_iast hG dc12_paid_91 (fun σ91 => ?_)
    refine s_aload_n hG dc12_paid_92 rfl ?_
    refine s_callVi hG kMc12_321 (fun a => corc12_worthNow N a _) ⟨by decide, rfl⟩ rfl (by first | decide | omega) dc12_paid_93 rfl rfl (Nat.le_of_ble_eq_true rfl) ⟨Nat.le_of_ble_eq_true rfl, Nat.le_of_ble_eq_true rfl⟩ (fun p93 => ?_)
    refine s_istore hG dc12_paid_96 (by decide) ?_
    exact s_lv (lc rfl ln) (pc12_paid_98 hG _ _)
