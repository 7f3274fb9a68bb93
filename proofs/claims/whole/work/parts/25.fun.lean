def fc11_held (N : Nat) (x0 : Int32) (x1 : Int32) (x2 : Int32) (σ : Me) : Option (Int32 × Me) :=
  if x0 ≤ x1 then
    if x1 ≤ x2 then
      some (x1, σ)
    else
      some (x2, σ)
  else
    some (x0, σ)
set_option maxRecDepth 20000 in
set_option maxHeartbeats 2000000 in
theorem corc11_held {Ω : Om} (N : Nat) (x0 : Int32) (x1 : Int32) (x2 : Int32) (σ : Me) : Cor Ω tc11_held 1 0 0 [vI x0, vI x1, vI x2] σ ιI (fc11_held N x0 x1 x2 σ) := by
  refine Cor.of (by decide +kernel) (Nat.le_of_ble_eq_true rfl) (fun Γ hG => ?_)
  unfold fc11_held
  show Sim Ω Γ 0 0 ιI 3 0 [(0, vI x0), (1, vI x1), (2, vI x2)] [] σ 0 0 _
  refine s_iload_n hG dc11_held_0 rfl ?_
  refine s_iload_n hG dc11_held_1 rfl ?_
  refine s_icmp_ge hG 9 dc11_held_2 (by decide) ?_ ?_
  · refine s_iload_n hG dc11_held_9 rfl ?_
    refine s_iload_n hG dc11_held_10 rfl ?_
    refine s_icmp_le hG 18 dc11_held_11 (by decide) ?_ ?_
    · refine s_iload_n hG dc11_held_18 rfl ?_
      exact s_iret hG dc11_held_19 rfl (Nat.le_of_ble_eq_true rfl) (Nat.le_of_ble_eq_true rfl)
    · refine s_iload_n hG dc11_held_14 rfl ?_
      refine s_goto hG 19 dc11_held_15 (by decide) ?_
      exact s_iret hG dc11_held_19 rfl (Nat.le_of_ble_eq_true rfl) (Nat.le_of_ble_eq_true rfl)
  · refine s_iload_n hG dc11_held_5 rfl ?_
    refine s_goto hG 19 dc11_held_6 (by decide) ?_
    exact s_iret hG dc11_held_19 rfl (Nat.le_of_ble_eq_true rfl) (Nat.le_of_ble_eq_true rfl)
def fc2_withInterest (N : Nat) (a0 : Nat) (x1 : Int32) (σ : Me) : Option (Int32 × Me) :=
  (qI σ 2 6 (some a0)).bind fun v6 =>
  (dvI (x1 * v6) (10 : Int32)).bind fun v12 =>
  (fMt_min N (999 : Int32) (x1 + v12) σ).bind fun p14 =>
  some (p14.1, p14.2)
set_option maxRecDepth 20000 in
set_option maxHeartbeats 2000000 in
theorem corc2_withInterest {Ω : Om} (N : Nat) (a0 : Nat) (x1 : Int32) (σ : Me) : Cor Ω tc2_withInterest 2 0 0 [vR (some a0), vI x1] σ ιI (fc2_withInterest N a0 x1 σ) := by
  refine Cor.of (by decide +kernel) (Nat.le_of_ble_eq_true rfl) (fun Γ hG => ?_)
  unfold fc2_withInterest
  show Sim Ω Γ 0 0 ιI 2 0 [(0, vR (some a0)), (1, vI x1)] [] σ 0 0 _
  refine s_sipush (v := 999) hG dc2_withInterest_0 (by decide) ?_
  refine s_iload_n hG dc2_withInterest_3 rfl ?_
  refine s_iload_n hG dc2_withInterest_4 rfl ?_
  refine s_aload_n hG dc2_withInterest_5 rfl ?_
  refine s_getI hG kFc2_37 rfl dc2_withInterest_6 (fun v6 => ?_)
  refine s_imul hG dc2_withInterest_9 ?_
  refine s_bipush (v := 10) hG dc2_withInterest_10 (by decide) ?_
  refine s_idiv hG dc2_withInterest_12 (fun v12 => ?_)
  refine s_iadd hG dc2_withInterest_13 ?_
  refine s_callSi hG kMc2_49 (corMt_min N _ _ _) rfl (by first | decide | omega) dc2_withInterest_14 rfl rfl (Nat.le_of_ble_eq_true rfl) ⟨Nat.le_of_ble_eq_true rfl, Nat.le_of_ble_eq_true rfl⟩ (fun p14 => ?_)
  exact s_iret hG dc2_withInterest_17 rfl (Nat.le_of_ble_eq_true rfl) (Nat.le_of_ble_eq_true rfl)
def fc3_joined_214 (N : Nat) (l3 : Int64) (σ : Me) : Option (Int32 × Me) :=
  if (lg_cmp l3 (1000000 : Int64)) ≤ 0 then
    if 0 ≤ (lg_cmp l3 (-1000000 : Int64)) then
      some ((Int64.toInt32 l3), σ)
    else
      some ((-1000000 : Int32), σ)
  else
    some ((1000000 : Int32), σ)
def fc3_joined_155 (N : Nat) (s0 : Int64) (σ : Me) : Option (Int32 × Me) :=
  fc3_joined_214 N s0 σ
def fc3_joined_169 (N : Nat) (s0 : Int64) (σ : Me) : Option (Int32 × Me) :=
  fc3_joined_214 N s0 σ
def fc3_joined_183 (N : Nat) (s0 : Int64) (σ : Me) : Option (Int32 × Me) :=
  fc3_joined_214 N s0 σ
def fc3_joined_197 (N : Nat) (s0 : Int64) (σ : Me) : Option (Int32 × Me) :=
  fc3_joined_214 N s0 σ
def fc3_joined (N : Nat) (x0 : Int32) (x1 : Int32) (x2 : Int32) (σ : Me) : Option (Int32 × Me) :=
  if x1 = (38 : Int32) then
    fc3_joined_214 N (Int32.toInt64 (x0 &&& x2)) σ
  else
  if x1 = (39 : Int32) then
    fc3_joined_214 N (Int32.toInt64 (x0 ||| x2)) σ
  else
  if x1 = (40 : Int32) then
    fc3_joined_214 N (Int32.toInt64 (x0 ||| x2)) σ
  else
  if x1 = (41 : Int32) then
    fc3_joined_214 N (Int32.toInt64 (x0 ||| x2)) σ
  else
  if x1 = (42 : Int32) then
    fc3_joined_214 N ((Int32.toInt64 x0) * (Int32.toInt64 x2)) σ
  else
  if x1 = (43 : Int32) then
    fc3_joined_214 N ((Int32.toInt64 x0) + (Int32.toInt64 x2)) σ
  else
  if x1 = (44 : Int32) then
    fc3_joined_214 N (Int32.toInt64 (x0 ||| x2)) σ
  else
  if x1 = (45 : Int32) then
    fc3_joined_214 N ((Int32.toInt64 x0) - (Int32.toInt64 x2)) σ
  else
  if x1 = (46 : Int32) then
    fc3_joined_214 N (Int32.toInt64 (x0 ||| x2)) σ
  else
  if x1 = (47 : Int32) then
    if x2 = 0 then
      fc3_joined_155 N (0 : Int64) σ
    else
      (dvI x0 x2).bind fun v153 =>
      fc3_joined_155 N (Int32.toInt64 v153) σ
  else
  if x1 = (48 : Int32) then
    fc3_joined_214 N (Int32.toInt64 (x0 ||| x2)) σ
  else
  if x1 = (49 : Int32) then
    fc3_joined_214 N (Int32.toInt64 (x0 ||| x2)) σ
  else
  if x1 = (50 : Int32) then
    fc3_joined_214 N (Int32.toInt64 (x0 ||| x2)) σ
  else
  if x1 = (51 : Int32) then
    fc3_joined_214 N (Int32.toInt64 (x0 ||| x2)) σ
  else
  if x1 = (52 : Int32) then
    fc3_joined_214 N (Int32.toInt64 (x0 ||| x2)) σ
  else
  if x1 = (53 : Int32) then
    fc3_joined_214 N (Int32.toInt64 (x0 ||| x2)) σ
  else
  if x1 = (54 : Int32) then
    fc3_joined_214 N (Int32.toInt64 (x0 ||| x2)) σ
  else
  if x1 = (55 : Int32) then
    fc3_joined_214 N (Int32.toInt64 (x0 ||| x2)) σ
  else
  if x1 = (56 : Int32) then
    fc3_joined_214 N (Int32.toInt64 (x0 ||| x2)) σ
  else
  if x1 = (57 : Int32) then
    fc3_joined_214 N (Int32.toInt64 (x0 ||| x2)) σ
  else
  if x1 = (58 : Int32) then
    fc3_joined_214 N (Int32.toInt64 (x0 ||| x2)) σ
  else
  if x1 = (59 : Int32) then
    fc3_joined_214 N (Int32.toInt64 (x0 ||| x2)) σ
  else
  if x1 = (60 : Int32) then
    if x2 ≤ x0 then
      fc3_joined_183 N (0 : Int64) σ
    else
      fc3_joined_183 N (1 : Int64) σ
  else
  if x1 = (61 : Int32) then
    if x0 = x2 then
      fc3_joined_169 N (1 : Int64) σ
    else
      fc3_joined_169 N (0 : Int64) σ
  else
  if x1 = (62 : Int32) then
    if x0 ≤ x2 then
      fc3_joined_197 N (0 : Int64) σ
    else
      fc3_joined_197 N (1 : Int64) σ
  else
  fc3_joined_214 N (Int32.toInt64 (x0 ||| x2)) σ
set_option maxRecDepth 20000 in
set_option maxHeartbeats 2000000 in
theorem pc3_joined_214 {Ω : Om} {Γ : Ga} {N : Nat} (hG : Good Ω Γ tc3_joined 1 0 0) (l3 : Int64) (σ : Me) : Sim Ω Γ 0 0 ιI 5 214 [(3, vL l3)] [] σ 0 0 (fc3_joined_214 N l3 σ) := by
  unfold fc3_joined_214
  refine s_lload_n hG dc3_joined_214 rfl ?_
  refine s_ldc2 hG dc3_joined_215 kJc3_22 ?_
  refine s_lcmp hG dc3_joined_218 ?_
  refine s_if_le hG 227 dc3_joined_219 (by decide) ?_ ?_
  · refine s_lload_n hG dc3_joined_227 rfl ?_
    refine s_ldc2 hG dc3_joined_228 kJc3_25 ?_
    refine s_lcmp hG dc3_joined_231 ?_
    refine s_if_ge hG 240 dc3_joined_232 (by decide) ?_ ?_
    · refine s_lload_n hG dc3_joined_240 rfl ?_
      refine s_l2i hG dc3_joined_241 ?_
      exact s_iret hG dc3_joined_242 rfl (Nat.le_of_ble_eq_true rfl) (Nat.le_of_ble_eq_true rfl)
    · refine s_ldc hG dc3_joined_235 kIc3_27 ?_
      refine s_goto hG 242 dc3_joined_237 (by decide) ?_
      exact s_iret hG dc3_joined_242 rfl (Nat.le_of_ble_eq_true rfl) (Nat.le_of_ble_eq_true rfl)
  · refine s_ldc hG dc3_joined_222 kIc3_24 ?_
    refine s_goto hG 242 dc3_joined_224 (by decide) ?_
    exact s_iret hG dc3_joined_242 rfl (Nat.le_of_ble_eq_true rfl) (Nat.le_of_ble_eq_true rfl)
set_option maxRecDepth 20000 in
set_option maxHeartbeats 2000000 in
theorem pc3_joined_155 {Ω : Om} {Γ : Ga} {N : Nat} (hG : Good Ω Γ tc3_joined 1 0 0) (s0 : Int64) (σ : Me) : Sim Ω Γ 0 0 ιI 5 155 [] [vL s0] σ 0 0 (fc3_joined_155 N s0 σ) := by
  unfold fc3_joined_155
  refine s_lstore_n hG dc3_joined_155 (by decide) ?_
  refine s_goto hG 214 dc3_joined_156 (by decide) ?_
  exact s_lv (lc rfl ln) (pc3_joined_214 hG _ _)
set_option maxRecDepth 20000 in
set_option maxHeartbeats 2000000 in
theorem pc3_joined_169 {Ω : Om} {Γ : Ga} {N : Nat} (hG : Good Ω Γ tc3_joined 1 0 0) (s0 : Int64) (σ : Me) : Sim Ω Γ 0 0 ιI 5 169 [] [vL s0] σ 0 0 (fc3_joined_169 N s0 σ) := by
  unfold fc3_joined_169
  refine s_lstore_n hG dc3_joined_169 (by decide) ?_
  refine s_goto hG 214 dc3_joined_170 (by decide) ?_
  exact s_lv (lc rfl ln) (pc3_joined_214 hG _ _)
set_option maxRecDepth 20000 in
set_option maxHeartbeats 2000000 in
theorem pc3_joined_183 {Ω : Om} {Γ : Ga} {N : Nat} (hG : Good Ω Γ tc3_joined 1 0 0) (s0 : Int64) (σ : Me) : Sim Ω Γ 0 0 ιI 5 183 [] [vL s0] σ 0 0 (fc3_joined_183 N s0 σ) := by
  unfold fc3_joined_183
  refine s_lstore_n hG dc3_joined_183 (by decide) ?_
  refine s_goto hG 214 dc3_joined_184 (by decide) ?_
  exact s_lv (lc rfl ln) (pc3_joined_214 hG _ _)
set_option maxRecDepth 20000 in
set_option maxHeartbeats 2000000 in
theorem pc3_joined_197 {Ω : Om} {Γ : Ga} {N : Nat} (hG : Good Ω Γ tc3_joined 1 0 0) (s0 : Int64) (σ : Me) : Sim Ω Γ 0 0 ιI 5 197 [] [vL s0] σ 0 0 (fc3_joined_197 N s0 σ) := by
  unfold fc3_joined_197
  refine s_lstore_n hG dc3_joined_197 (by decide) ?_
  refine s_goto hG 214 dc3_joined_198 (by decide) ?_
  exact s_lv (lc rfl ln) (pc3_joined_214 hG _ _)
set_option maxRecDepth 20000 in
set_option maxHeartbeats 2000000 in
theorem corc3_joined {Ω : Om} (N : Nat) (x0 : Int32) (x1 : Int32) (x2 : Int32) (σ : Me) : Cor Ω tc3_joined 1 0 0 [vI x0, vI x1, vI x2] σ ιI (fc3_joined N x0 x1 x2 σ) := by
  refine Cor.of (by decide +kernel) (Nat.le_of_ble_eq_true rfl) (fun Γ hG => ?_)
  unfold fc3_joined
  show Sim Ω Γ 0 0 ιI 5 0 [(0, vI x0), (1, vI x1), (2, vI x2)] [] σ 0 0 _
  refine s_iload_n hG dc3_joined_0 rfl ?_
  refine s_split _ (fun e0 => ?_) (fun e0 => ?_)
  · refine s_tabIn hG 201 dc3_joined_1 (by rw [e0]; decide) (by rw [e0]; decide) (by rw [e0]; rfl) (by decide) ?_
    refine s_iload_n hG dc3_joined_201 rfl ?_
    refine s_iload_n hG dc3_joined_202 rfl ?_
    refine s_iand hG dc3_joined_203 ?_
    refine s_i2l hG dc3_joined_204 ?_
    refine s_lstore_n hG dc3_joined_205 (by decide) ?_
    refine s_goto hG 214 dc3_joined_206 (by decide) ?_
    exact s_lv (lc rfl ln) (pc3_joined_214 hG _ _)
  · refine s_split _ (fun e1 => ?_) (fun e1 => ?_)
    · refine s_tabIn hG 209 dc3_joined_1 (by rw [e1]; decide) (by rw [e1]; decide) (by rw [e1]; rfl) (by decide) ?_
      refine s_iload_n hG dc3_joined_209 rfl ?_
      refine s_iload_n hG dc3_joined_210 rfl ?_
      refine s_ior hG dc3_joined_211 ?_
      refine s_i2l hG dc3_joined_212 ?_
      refine s_lstore_n hG dc3_joined_213 (by decide) ?_
      exact s_lv (lc rfl ln) (pc3_joined_214 hG _ _)
    · refine s_split _ (fun e2 => ?_) (fun e2 => ?_)
      · refine s_tabIn hG 209 dc3_joined_1 (by rw [e2]; decide) (by rw [e2]; decide) (by rw [e2]; rfl) (by decide) ?_
        refine s_iload_n hG dc3_joined_209 rfl ?_
        refine s_iload_n hG dc3_joined_210 rfl ?_
        refine s_ior hG dc3_joined_211 ?_
        refine s_i2l hG dc3_joined_212 ?_
        refine s_lstore_n hG dc3_joined_213 (by decide) ?_
        exact s_lv (lc rfl ln) (pc3_joined_214 hG _ _)
      · refine s_split _ (fun e3 => ?_) (fun e3 => ?_)
        · refine s_tabIn hG 209 dc3_joined_1 (by rw [e3]; decide) (by rw [e3]; decide) (by rw [e3]; rfl) (by decide) ?_
          refine s_iload_n hG dc3_joined_209 rfl ?_
          refine s_iload_n hG dc3_joined_210 rfl ?_
          refine s_ior hG dc3_joined_211 ?_
          refine s_i2l hG dc3_joined_212 ?_
          refine s_lstore_n hG dc3_joined_213 (by decide) ?_
          exact s_lv (lc rfl ln) (pc3_joined_214 hG _ _)
        · refine s_split _ (fun e4 => ?_) (fun e4 => ?_)
          · refine s_tabIn hG 134 dc3_joined_1 (by rw [e4]; decide) (by rw [e4]; decide) (by rw [e4]; rfl) (by decide) ?_
            refine s_iload_n hG dc3_joined_134 rfl ?_
            refine s_i2l hG dc3_joined_135 ?_
            refine s_iload_n hG dc3_joined_136 rfl ?_
            refine s_i2l hG dc3_joined_137 ?_
            refine s_lmul hG dc3_joined_138 ?_
            refine s_lstore_n hG dc3_joined_139 (by decide) ?_
            refine s_goto hG 214 dc3_joined_140 (by decide) ?_
            exact s_lv (lc rfl ln) (pc3_joined_214 hG _ _)
          · refine s_split _ (fun e5 => ?_) (fun e5 => ?_)
            · refine s_tabIn hG 116 dc3_joined_1 (by rw [e5]; decide) (by rw [e5]; decide) (by rw [e5]; rfl) (by decide) ?_
              refine s_iload_n hG dc3_joined_116 rfl ?_
              refine s_i2l hG dc3_joined_117 ?_
              refine s_iload_n hG dc3_joined_118 rfl ?_
              refine s_i2l hG dc3_joined_119 ?_
              refine s_ladd hG dc3_joined_120 ?_
              refine s_lstore_n hG dc3_joined_121 (by decide) ?_
              refine s_goto hG 214 dc3_joined_122 (by decide) ?_
              exact s_lv (lc rfl ln) (pc3_joined_214 hG _ _)
            · refine s_split _ (fun e6 => ?_) (fun e6 => ?_)
              · refine s_tabIn hG 209 dc3_joined_1 (by rw [e6]; decide) (by rw [e6]; decide) (by rw [e6]; rfl) (by decide) ?_
                refine s_iload_n hG dc3_joined_209 rfl ?_
                refine s_iload_n hG dc3_joined_210 rfl ?_
                refine s_ior hG dc3_joined_211 ?_
                refine s_i2l hG dc3_joined_212 ?_
                refine s_lstore_n hG dc3_joined_213 (by decide) ?_
                exact s_lv (lc rfl ln) (pc3_joined_214 hG _ _)
              · refine s_split _ (fun e7 => ?_) (fun e7 => ?_)
                · refine s_tabIn hG 125 dc3_joined_1 (by rw [e7]; decide) (by rw [e7]; decide) (by rw [e7]; rfl) (by decide) ?_
                  refine s_iload_n hG dc3_joined_125 rfl ?_
                  refine s_i2l hG dc3_joined_126 ?_
                  refine s_iload_n hG dc3_joined_127 rfl ?_
                  refine s_i2l hG dc3_joined_128 ?_
                  refine s_lsub hG dc3_joined_129 ?_
                  refine s_lstore_n hG dc3_joined_130 (by decide) ?_
                  refine s_goto hG 214 dc3_joined_131 (by decide) ?_
                  exact s_lv (lc rfl ln) (pc3_joined_214 hG _ _)
                · refine s_split _ (fun e8 => ?_) (fun e8 => ?_)
                  · refine s_tabIn hG 209 dc3_joined_1 (by rw [e8]; decide) (by rw [e8]; decide) (by rw [e8]; rfl) (by decide) ?_
                    refine s_iload_n hG dc3_joined_209 rfl ?_
                    refine s_iload_n hG dc3_joined_210 rfl ?_
                    refine s_ior hG dc3_joined_211 ?_
                    refine s_i2l hG dc3_joined_212 ?_
                    refine s_lstore_n hG dc3_joined_213 (by decide) ?_
                    exact s_lv (lc rfl ln) (pc3_joined_214 hG _ _)
                  · refine s_split _ (fun e9 => ?_) (fun e9 => ?_)
                    · refine s_tabIn hG 143 dc3_joined_1 (by rw [e9]; decide) (by rw [e9]; decide) (by rw [e9]; rfl) (by decide) ?_
                      refine s_iload_n hG dc3_joined_143 rfl ?_
                      refine s_if_ne hG 151 dc3_joined_144 (by decide) ?_ ?_
                      · refine s_iload_n hG dc3_joined_151 rfl ?_
                        refine s_iload_n hG dc3_joined_152 rfl ?_
                        refine s_idiv hG dc3_joined_153 (fun v153 => ?_)
                        refine s_i2l hG dc3_joined_154 ?_
                        exact s_lv ln (pc3_joined_155 hG _ _)
                      · refine s_lconst (v := 0) hG dc3_joined_147 (by decide) ?_
                        refine s_goto hG 155 dc3_joined_148 (by decide) ?_
                        exact s_lv ln (pc3_joined_155 hG _ _)
                    · refine s_split _ (fun e10 => ?_) (fun e10 => ?_)
                      · refine s_tabIn hG 209 dc3_joined_1 (by rw [e10]; decide) (by rw [e10]; decide) (by rw [e10]; rfl) (by decide) ?_
                        refine s_iload_n hG dc3_joined_209 rfl ?_
                        refine s_iload_n hG dc3_joined_210 rfl ?_
                        refine s_ior hG dc3_joined_211 ?_
                        refine s_i2l hG dc3_joined_212 ?_
                        refine s_lstore_n hG dc3_joined_213 (by decide) ?_
                        exact s_lv (lc rfl ln) (pc3_joined_214 hG _ _)
                      · refine s_split _ (fun e11 => ?_) (fun e11 => ?_)
                        · refine s_tabIn hG 209 dc3_joined_1 (by rw [e11]; decide) (by rw [e11]; decide) (by rw [e11]; rfl) (by decide) ?_
                          refine s_iload_n hG dc3_joined_209 rfl ?_
                          refine s_iload_n hG dc3_joined_210 rfl ?_
                          refine s_ior hG dc3_joined_211 ?_
                          refine s_i2l hG dc3_joined_212 ?_
                          refine s_lstore_n hG dc3_joined_213 (by decide) ?_
                          exact s_lv (lc rfl ln) (pc3_joined_214 hG _ _)
                        · refine s_split _ (fun e12 => ?_) (fun e12 => ?_)
                          · refine s_tabIn hG 209 dc3_joined_1 (by rw [e12]; decide) (by rw [e12]; decide) (by rw [e12]; rfl) (by decide) ?_
                            refine s_iload_n hG dc3_joined_209 rfl ?_
                            refine s_iload_n hG dc3_joined_210 rfl ?_
                            refine s_ior hG dc3_joined_211 ?_
                            refine s_i2l hG dc3_joined_212 ?_
                            refine s_lstore_n hG dc3_joined_213 (by decide) ?_
                            exact s_lv (lc rfl ln) (pc3_joined_214 hG _ _)
                          · refine s_split _ (fun e13 => ?_) (fun e13 => ?_)
                            · refine s_tabIn hG 209 dc3_joined_1 (by rw [e13]; decide) (by rw [e13]; decide) (by rw [e13]; rfl) (by decide) ?_
                              refine s_iload_n hG dc3_joined_209 rfl ?_
                              refine s_iload_n hG dc3_joined_210 rfl ?_
                              refine s_ior hG dc3_joined_211 ?_
                              refine s_i2l hG dc3_joined_212 ?_
                              refine s_lstore_n hG dc3_joined_213 (by decide) ?_
                              exact s_lv (lc rfl ln) (pc3_joined_214 hG _ _)
                            · refine s_split _ (fun e14 => ?_) (fun e14 => ?_)
                              · refine s_tabIn hG 209 dc3_joined_1 (by rw [e14]; decide) (by rw [e14]; decide) (by rw [e14]; rfl) (by decide) ?_
                                refine s_iload_n hG dc3_joined_209 rfl ?_
                                refine s_iload_n hG dc3_joined_210 rfl ?_
                                refine s_ior hG dc3_joined_211 ?_
                                refine s_i2l hG dc3_joined_212 ?_
                                refine s_lstore_n hG dc3_joined_213 (by decide) ?_
                                exact s_lv (lc rfl ln) (pc3_joined_214 hG _ _)
                              · refine s_split _ (fun e15 => ?_) (fun e15 => ?_)
                                · refine s_tabIn hG 209 dc3_joined_1 (by rw [e15]; decide) (by rw [e15]; decide) (by rw [e15]; rfl) (by decide) ?_
                                  refine s_iload_n hG dc3_joined_209 rfl ?_
                                  refine s_iload_n hG dc3_joined_210 rfl ?_
                                  refine s_ior hG dc3_joined_211 ?_
                                  refine s_i2l hG dc3_joined_212 ?_
                                  refine s_lstore_n hG dc3_joined_213 (by decide) ?_
                                  exact s_lv (lc rfl ln) (pc3_joined_214 hG _ _)
                                · refine s_split _ (fun e16 => ?_) (fun e16 => ?_)
                                  · refine s_tabIn hG 209 dc3_joined_1 (by rw [e16]; decide) (by rw [e16]; decide) (by rw [e16]; rfl) (by decide) ?_
                                    refine s_iload_n hG dc3_joined_209 rfl ?_
                                    refine s_iload_n hG dc3_joined_210 rfl ?_
                                    refine s_ior hG dc3_joined_211 ?_
                                    refine s_i2l hG dc3_joined_212 ?_
                                    refine s_lstore_n hG dc3_joined_213 (by decide) ?_
                                    exact s_lv (lc rfl ln) (pc3_joined_214 hG _ _)
                                  · refine s_split _ (fun e17 => ?_) (fun e17 => ?_)
                                    · refine s_tabIn hG 209 dc3_joined_1 (by rw [e17]; decide) (by rw [e17]; decide) (by rw [e17]; rfl) (by decide) ?_
                                      refine s_iload_n hG dc3_joined_209 rfl ?_
                                      refine s_iload_n hG dc3_joined_210 rfl ?_
                                      refine s_ior hG dc3_joined_211 ?_
                                      refine s_i2l hG dc3_joined_212 ?_
                                      refine s_lstore_n hG dc3_joined_213 (by decide) ?_
                                      exact s_lv (lc rfl ln) (pc3_joined_214 hG _ _)
                                    · refine s_split _ (fun e18 => ?_) (fun e18 => ?_)
                                      · refine s_tabIn hG 209 dc3_joined_1 (by rw [e18]; decide) (by rw [e18]; decide) (by rw [e18]; rfl) (by decide) ?_
                                        refine s_iload_n hG dc3_joined_209 rfl ?_
                                        refine s_iload_n hG dc3_joined_210 rfl ?_
                                        refine s_ior hG dc3_joined_211 ?_
                                        refine s_i2l hG dc3_joined_212 ?_
                                        refine s_lstore_n hG dc3_joined_213 (by decide) ?_
                                        exact s_lv (lc rfl ln) (pc3_joined_214 hG _ _)
                                      · refine s_split _ (fun e19 => ?_) (fun e19 => ?_)
                                        · refine s_tabIn hG 209 dc3_joined_1 (by rw [e19]; decide) (by rw [e19]; decide) (by rw [e19]; rfl) (by decide) ?_
                                          refine s_iload_n hG dc3_joined_209 rfl ?_
                                          refine s_iload_n hG dc3_joined_210 rfl ?_
                                          refine s_ior hG dc3_joined_211 ?_
                                          refine s_i2l hG dc3_joined_212 ?_
                                          refine s_lstore_n hG dc3_joined_213 (by decide) ?_
                                          exact s_lv (lc rfl ln) (pc3_joined_214 hG _ _)
                                        · refine s_split _ (fun e20 => ?_) (fun e20 => ?_)
                                          · refine s_tabIn hG 209 dc3_joined_1 (by rw [e20]; decide) (by rw [e20]; decide) (by rw [e20]; rfl) (by decide) ?_
                                            refine s_iload_n hG dc3_joined_209 rfl ?_
                                            refine s_iload_n hG dc3_joined_210 rfl ?_
                                            refine s_ior hG dc3_joined_211 ?_
                                            refine s_i2l hG dc3_joined_212 ?_
                                            refine s_lstore_n hG dc3_joined_213 (by decide) ?_
                                            exact s_lv (lc rfl ln) (pc3_joined_214 hG _ _)
                                          · refine s_split _ (fun e21 => ?_) (fun e21 => ?_)
                                            · refine s_tabIn hG 209 dc3_joined_1 (by rw [e21]; decide) (by rw [e21]; decide) (by rw [e21]; rfl) (by decide) ?_
                                              refine s_iload_n hG dc3_joined_209 rfl ?_
                                              refine s_iload_n hG dc3_joined_210 rfl ?_
                                              refine s_ior hG dc3_joined_211 ?_
                                              refine s_i2l hG dc3_joined_212 ?_
                                              refine s_lstore_n hG dc3_joined_213 (by decide) ?_
                                              exact s_lv (lc rfl ln) (pc3_joined_214 hG _ _)
                                            · refine s_split _ (fun e22 => ?_) (fun e22 => ?_)
                                              · refine s_tabIn hG 173 dc3_joined_1 (by rw [e22]; decide) (by rw [e22]; decide) (by rw [e22]; rfl) (by decide) ?_
                                                refine s_iload_n hG dc3_joined_173 rfl ?_
                                                refine s_iload_n hG dc3_joined_174 rfl ?_
                                                refine s_icmp_ge hG 182 dc3_joined_175 (by decide) ?_ ?_
                                                · refine s_lconst (v := 0) hG dc3_joined_182 (by decide) ?_
                                                  exact s_lv ln (pc3_joined_183 hG _ _)
                                                · refine s_lconst (v := 1) hG dc3_joined_178 (by decide) ?_
                                                  refine s_goto hG 183 dc3_joined_179 (by decide) ?_
                                                  exact s_lv ln (pc3_joined_183 hG _ _)
                                              · refine s_split _ (fun e23 => ?_) (fun e23 => ?_)
                                                · refine s_tabIn hG 159 dc3_joined_1 (by rw [e23]; decide) (by rw [e23]; decide) (by rw [e23]; rfl) (by decide) ?_
                                                  refine s_iload_n hG dc3_joined_159 rfl ?_
                                                  refine s_iload_n hG dc3_joined_160 rfl ?_
                                                  refine s_icmp_ne hG 168 dc3_joined_161 (by decide) ?_ ?_
                                                  · refine s_lconst (v := 0) hG dc3_joined_168 (by decide) ?_
                                                    exact s_lv ln (pc3_joined_169 hG _ _)
                                                  · refine s_lconst (v := 1) hG dc3_joined_164 (by decide) ?_
                                                    refine s_goto hG 169 dc3_joined_165 (by decide) ?_
                                                    exact s_lv ln (pc3_joined_169 hG _ _)
                                                · refine s_split _ (fun e24 => ?_) (fun e24 => ?_)
                                                  · refine s_tabIn hG 187 dc3_joined_1 (by rw [e24]; decide) (by rw [e24]; decide) (by rw [e24]; rfl) (by decide) ?_
                                                    refine s_iload_n hG dc3_joined_187 rfl ?_
                                                    refine s_iload_n hG dc3_joined_188 rfl ?_
                                                    refine s_icmp_le hG 196 dc3_joined_189 (by decide) ?_ ?_
                                                    · refine s_lconst (v := 0) hG dc3_joined_196 (by decide) ?_
                                                      exact s_lv ln (pc3_joined_197 hG _ _)
                                                    · refine s_lconst (v := 1) hG dc3_joined_192 (by decide) ?_
                                                      refine s_goto hG 197 dc3_joined_193 (by decide) ?_
                                                      exact s_lv ln (pc3_joined_197 hG _ _)
                                                  · refine s_tabOut hG 209 dc3_joined_1 (tab_out (lo := 38) (n := 24) (by decide) (by decide) (show ∀ q ∈ [(38 : Int32), (39 : Int32), (40 : Int32), (41 : Int32), (42 : Int32), (43 : Int32), (44 : Int32), (45 : Int32), (46 : Int32), (47 : Int32), (48 : Int32), (49 : Int32), (50 : Int32), (51 : Int32), (52 : Int32), (53 : Int32), (54 : Int32), (55 : Int32), (56 : Int32), (57 : Int32), (58 : Int32), (59 : Int32), (60 : Int32), (61 : Int32), (62 : Int32)], ¬ _ = q from (List.forall_mem_cons.mpr ⟨e0, (List.forall_mem_cons.mpr ⟨e1, (List.forall_mem_cons.mpr ⟨e2, (List.forall_mem_cons.mpr ⟨e3, (List.forall_mem_cons.mpr ⟨e4, (List.forall_mem_cons.mpr ⟨e5, (List.forall_mem_cons.mpr ⟨e6, (List.forall_mem_cons.mpr ⟨e7, (List.forall_mem_cons.mpr ⟨e8, (List.forall_mem_cons.mpr ⟨e9, (List.forall_mem_cons.mpr ⟨e10, (List.forall_mem_cons.mpr ⟨e11, (List.forall_mem_cons.mpr ⟨e12, (List.forall_mem_cons.mpr ⟨e13, (List.forall_mem_cons.mpr ⟨e14, (List.forall_mem_cons.mpr ⟨e15, (List.forall_mem_cons.mpr ⟨e16, (List.forall_mem_cons.mpr ⟨e17, (List.forall_mem_cons.mpr ⟨e18, (List.forall_mem_cons.mpr ⟨e19, (List.forall_mem_cons.mpr ⟨e20, (List.forall_mem_cons.mpr ⟨e21, (List.forall_mem_cons.mpr ⟨e22, (List.forall_mem_cons.mpr ⟨e23, (List.forall_mem_cons.mpr ⟨e24, (fun q h => absurd h List.not_mem_nil)⟩)⟩)⟩)⟩)⟩)⟩)⟩)⟩)⟩)⟩)⟩)⟩)⟩)⟩)⟩)⟩)⟩)⟩)⟩)⟩)⟩)⟩)⟩)⟩)⟩))) (by decide) ?_
                                                    refine s_iload_n hG dc3_joined_209 rfl ?_
                                                    refine s_iload_n hG dc3_joined_210 rfl ?_
                                                    refine s_ior hG dc3_joined_211 ?_
                                                    refine s_i2l hG dc3_joined_212 ?_
                                                    refine s_lstore_n hG dc3_joined_213 (by decide) ?_
                                                    exact s_lv (lc rfl ln) (pc3_joined_214 hG _ _)
def fc3_worth_215 (N : Nat) (K7 : Option Nat → Option Nat → Int32 → Int32 → Int32 → Me → Option (Int32 × Me)) (l0 : Option Nat) (l1 : Option Nat) (l2 : Int32) (l3 : Int32) (l4 : Int32) (σ : Me) : Option (Int32 × Me) :=
  K7 l0 l1 l2 l3 (l4 + (1 : Int32)) σ
def fc3_worth_145 (N : Nat) (K7 : Option Nat → Option Nat → Int32 → Int32 → Int32 → Me → Option (Int32 × Me)) (l0 : Option Nat) (l1 : Option Nat) (l2 : Int32) (l4 : Int32) (s0 : Int32) (σ : Me) : Option (Int32 × Me) :=
  fc3_worth_215 N K7 l0 l1 l2 s0 l4 σ
def fc3_worth_48 (N : Nat) (K7 : Option Nat → Option Nat → Int32 → Int32 → Int32 → Me → Option (Int32 × Me)) (l0 : Option Nat) (l1 : Option Nat) (l2 : Int32) (l4 : Int32) (s0 : Int32) (σ : Me) : Option (Int32 × Me) :=
  fc3_worth_215 N K7 l0 l1 l2 s0 l4 σ
def fc3_worth_7 (N : Nat) : Nat → Option Nat → Option Nat → Int32 → Int32 → Int32 → Me → Option (Int32 × Me)
  | 0, _, _, _, _, _, _ => none
  | n + 1, l0, l1, l2, l3, l4, σ =>
    (qR σ 3 0 l0).bind fun v10 =>
    (aLn σ .int v10).bind fun v13 =>
    if v13 ≤ l4 then
      some ((0 : Int32), σ)
    else
      if (32 : Int32) ≤ l2 then
        some ((0 : Int32), σ)
      else
        (qR σ 3 0 l0).bind fun v24 =>
        (ldI σ v24 l4).bind fun v29 =>
        if l3 = 0 then
          if v29 < 0 then
            (aLn σ .int l1).bind fun v75 =>
            if v75 < (-v29) then
              if (1 : Int32) ≤ l2 then
                if v29 = (-59 : Int32) then
                  (qR σ 3 1 l0).bind fun v113 =>
                  (ldI σ v113 (l2 - (1 : Int32))).bind fun v119 =>
                  some (v119, σ)
                else
                  if v29 = (-63 : Int32) then
                    (qR σ 3 1 l0).bind fun v129 =>
                    (ldI σ v129 (l2 + (-1 : Int32))).bind fun v136 =>
                    if v136 = 0 then
                      fc3_worth_145 N (fc3_worth_7 N n) l0 l1 (l2 + (-1 : Int32)) l4 (1 : Int32) σ
                    else
                      fc3_worth_145 N (fc3_worth_7 N n) l0 l1 (l2 + (-1 : Int32)) l4 (0 : Int32) σ
                  else
                    if v29 = (-33 : Int32) then
                      (qR σ 3 1 l0).bind fun v157 =>
                      (qR σ 3 1 l0).bind fun v165 =>
                      (ldI σ v165 (l2 - (1 : Int32))).bind fun v171 =>
                      (stI σ v157 (l2 - (1 : Int32)) ((1 : Int32) - v171)).bind fun σ173 =>
                      fc3_worth_215 N (fc3_worth_7 N n) l0 l1 l2 l3 l4 σ173
                    else
                      if (2 : Int32) ≤ l2 then
                        (qR σ 3 1 l0).bind fun v188 =>
                        (qR σ 3 1 l0).bind fun v195 =>
                        (ldI σ v195 ((l2 + (-1 : Int32)) - (1 : Int32))).bind fun v201 =>
                        (qR σ 3 1 l0).bind fun v206 =>
                        (ldI σ v206 (l2 + (-1 : Int32))).bind fun v210 =>
                        (fc3_joined N v201 (-v29) v210 σ).bind fun p211 =>
                        (stI p211.2 v188 ((l2 + (-1 : Int32)) - (1 : Int32)) p211.1).bind fun σ214 =>
                        fc3_worth_215 N (fc3_worth_7 N n) l0 l1 (l2 + (-1 : Int32)) l3 l4 σ214
                      else
                        some ((0 : Int32), σ)
              else
                some ((0 : Int32), σ)
            else
              (qR σ 3 1 l0).bind fun v80 =>
              (ldI σ l1 ((-v29) - (1 : Int32))).bind fun v93 =>
              (stI σ v80 l2 v93).bind fun σ94 =>
              fc3_worth_215 N (fc3_worth_7 N n) l0 l1 (l2 + (1 : Int32)) l3 l4 σ94
          else
            (qR σ 3 1 l0).bind fun v58 =>
            (stI σ v58 l2 v29).bind fun σ67 =>
            fc3_worth_215 N (fc3_worth_7 N n) l0 l1 (l2 + (1 : Int32)) l3 l4 σ67
        else
          if v29 = (-59 : Int32) then
            fc3_worth_48 N (fc3_worth_7 N n) l0 l1 l2 l4 (0 : Int32) σ
          else
            fc3_worth_48 N (fc3_worth_7 N n) l0 l1 l2 l4 (1 : Int32) σ
def fc3_worth (N : Nat) (a0 : Nat) (x1 : Option Nat) (σ : Me) : Option (Int32 × Me) :=
  fc3_worth_7 N N (some a0) x1 (0 : Int32) (0 : Int32) (0 : Int32) σ
set_option maxRecDepth 20000 in
set_option maxHeartbeats 2000000 in
theorem pc3_worth_215 {Ω : Om} {Γ : Ga} {N : Nat} (hG : Good Ω Γ tc3_worth 2 0 0) {K7 : Option Nat → Option Nat → Int32 → Int32 → Int32 → Me → Option (Int32 × Me)} (hK7 : ∀ (l0 : Option Nat) (l1 : Option Nat) (l2 : Int32) (l3 : Int32) (l4 : Int32) (σ : Me), Sim Ω Γ 0 0 ιI 6 7 [(0, vR l0), (1, vR l1), (2, vI l2), (3, vI l3), (4, vI l4)] [] σ 0 0 (K7 l0 l1 l2 l3 l4 σ)) (l0 : Option Nat) (l1 : Option Nat) (l2 : Int32) (l3 : Int32) (l4 : Int32) (σ : Me) : Sim Ω Γ 0 0 ιI 6 215 [(0, vR l0), (1, vR l1), (2, vI l2), (3, vI l3), (4, vI l4)] [] σ 0 0 (fc3_worth_215 N K7 l0 l1 l2 l3 l4 σ) := by
  unfold fc3_worth_215
  refine s_iinc (v := 1) hG dc3_worth_215 rfl (by decide) (by decide) ?_
  refine s_goto hG 7 dc3_worth_218 (by decide) ?_
  exact s_lv (lc rfl (lc rfl (lc rfl (lc rfl (lc rfl ln))))) (hK7 _ _ _ _ _ _)
set_option maxRecDepth 20000 in
set_option maxHeartbeats 2000000 in
theorem pc3_worth_145 {Ω : Om} {Γ : Ga} {N : Nat} (hG : Good Ω Γ tc3_worth 2 0 0) {K7 : Option Nat → Option Nat → Int32 → Int32 → Int32 → Me → Option (Int32 × Me)} (hK7 : ∀ (l0 : Option Nat) (l1 : Option Nat) (l2 : Int32) (l3 : Int32) (l4 : Int32) (σ : Me), Sim Ω Γ 0 0 ιI 6 7 [(0, vR l0), (1, vR l1), (2, vI l2), (3, vI l3), (4, vI l4)] [] σ 0 0 (K7 l0 l1 l2 l3 l4 σ)) (l0 : Option Nat) (l1 : Option Nat) (l2 : Int32) (l4 : Int32) (s0 : Int32) (σ : Me) : Sim Ω Γ 0 0 ιI 6 145 [(0, vR l0), (1, vR l1), (2, vI l2), (4, vI l4)] [vI s0] σ 0 0 (fc3_worth_145 N K7 l0 l1 l2 l4 s0 σ) := by
  unfold fc3_worth_145
  refine s_istore_n hG dc3_worth_145 (by decide) ?_
  refine s_goto hG 215 dc3_worth_146 (by decide) ?_
  exact s_lv (lc rfl (lc rfl (lc rfl (lc rfl (lc rfl ln))))) (pc3_worth_215 hG hK7 _ _ _ _ _ _)
set_option maxRecDepth 20000 in
set_option maxHeartbeats 2000000 in
theorem pc3_worth_48 {Ω : Om} {Γ : Ga} {N : Nat} (hG : Good Ω Γ tc3_worth 2 0 0) {K7 : Option Nat → Option Nat → Int32 → Int32 → Int32 → Me → Option (Int32 × Me)} (hK7 : ∀ (l0 : Option Nat) (l1 : Option Nat) (l2 : Int32) (l3 : Int32) (l4 : Int32) (σ : Me), Sim Ω Γ 0 0 ιI 6 7 [(0, vR l0), (1, vR l1), (2, vI l2), (3, vI l3), (4, vI l4)] [] σ 0 0 (K7 l0 l1 l2 l3 l4 σ)) (l0 : Option Nat) (l1 : Option Nat) (l2 : Int32) (l4 : Int32) (s0 : Int32) (σ : Me) : Sim Ω Γ 0 0 ιI 6 48 [(0, vR l0), (1, vR l1), (2, vI l2), (4, vI l4)] [vI s0] σ 0 0 (fc3_worth_48 N K7 l0 l1 l2 l4 s0 σ) := by
  unfold fc3_worth_48
  refine s_istore_n hG dc3_worth_48 (by decide) ?_
  refine s_goto hG 215 dc3_worth_49 (by decide) ?_
  exact s_lv (lc rfl (lc rfl (lc rfl (lc rfl (lc rfl ln))))) (pc3_worth_215 hG hK7 _ _ _ _ _ _)
set_option maxRecDepth 20000 in
set_option maxHeartbeats 2000000 in
theorem pc3_worth_7 {Ω : Om} {Γ : Ga} {N : Nat} (hG : Good Ω Γ tc3_worth 2 0 0)  : ∀ (n : Nat) (l0 : Option Nat) (l1 : Option Nat) (l2 : Int32) (l3 : Int32) (l4 : Int32) (σ : Me), Sim Ω Γ 0 0 ιI 6 7 [(0, vR l0), (1, vR l1), (2, vI l2), (3, vI l3), (4, vI l4)] [] σ 0 0 (fc3_worth_7 N n l0 l1 l2 l3 l4 σ) := by
  intro n
  induction n with
  | zero => intros; exact s_none
  | succ n ih =>
    intro l0 l1 l2 l3 l4 σ
    unfold fc3_worth_7
    refine s_iload hG dc3_worth_7 rfl ?_
    refine s_aload_n hG dc3_worth_9 rfl ?_
    refine s_getR hG kFc3_15 rfl dc3_worth_10 (fun v10 => ?_)
    refine s_alen hG 0 rfl dc3_worth_13 (fun v13 => ?_)
    refine s_icmp_ge hG 221 dc3_worth_14 (by decide) ?_ ?_
    · refine s_iconst (v := 0) hG dc3_worth_221 (by decide) ?_
      exact s_iret hG dc3_worth_222 rfl (Nat.le_of_ble_eq_true rfl) (Nat.le_of_ble_eq_true rfl)
    · refine s_iload_n hG dc3_worth_17 rfl ?_
      refine s_bipush (v := 32) hG dc3_worth_18 (by decide) ?_
      refine s_icmp_ge hG 221 dc3_worth_20 (by decide) ?_ ?_
      · refine s_iconst (v := 0) hG dc3_worth_221 (by decide) ?_
        exact s_iret hG dc3_worth_222 rfl (Nat.le_of_ble_eq_true rfl) (Nat.le_of_ble_eq_true rfl)
      · refine s_aload_n hG dc3_worth_23 rfl ?_
        refine s_getR hG kFc3_15 rfl dc3_worth_24 (fun v24 => ?_)
        refine s_iload hG dc3_worth_27 rfl ?_
        refine s_iald hG dc3_worth_29 (fun v29 => ?_)
        refine s_istore hG dc3_worth_30 (by decide) ?_
        refine s_iload_n hG dc3_worth_32 rfl ?_
        refine s_if_eq hG 52 dc3_worth_33 (by decide) ?_ ?_
        · refine s_iload hG dc3_worth_52 rfl ?_
          refine s_if_lt hG 71 dc3_worth_54 (by decide) ?_ ?_
          · refine s_iload hG dc3_worth_71 rfl ?_
            refine s_ineg hG dc3_worth_73 ?_
            refine s_aload_n hG dc3_worth_74 rfl ?_
            refine s_alen hG 0 rfl dc3_worth_75 (fun v75 => ?_)
            refine s_icmp_gt hG 98 dc3_worth_76 (by decide) ?_ ?_
            · refine s_iload_n hG dc3_worth_98 rfl ?_
              refine s_iconst (v := 1) hG dc3_worth_99 (by decide) ?_
              refine s_icmp_ge hG 105 dc3_worth_100 (by decide) ?_ ?_
              · refine s_iload hG dc3_worth_105 rfl ?_
                refine s_bipush (v := -59) hG dc3_worth_107 (by decide) ?_
                refine s_icmp_ne hG 121 dc3_worth_109 (by decide) ?_ ?_
                · refine s_iload hG dc3_worth_121 rfl ?_
                  refine s_bipush (v := -63) hG dc3_worth_123 (by decide) ?_
                  refine s_icmp_ne hG 149 dc3_worth_125 (by decide) ?_ ?_
                  · refine s_iload hG dc3_worth_149 rfl ?_
                    refine s_bipush (v := -33) hG dc3_worth_151 (by decide) ?_
                    refine s_icmp_ne hG 177 dc3_worth_153 (by decide) ?_ ?_
                    · refine s_iload_n hG dc3_worth_177 rfl ?_
                      refine s_iconst (v := 2) hG dc3_worth_178 (by decide) ?_
                      refine s_icmp_ge hG 184 dc3_worth_179 (by decide) ?_ ?_
                      · refine s_iinc (v := -1) hG dc3_worth_184 rfl (by decide) (by decide) ?_
                        refine s_aload_n hG dc3_worth_187 rfl ?_
                        refine s_getR hG kFc3_11 rfl dc3_worth_188 (fun v188 => ?_)
                        refine s_iload_n hG dc3_worth_191 rfl ?_
                        refine s_iconst (v := 1) hG dc3_worth_192 (by decide) ?_
                        refine s_isub hG dc3_worth_193 ?_
                        refine s_aload_n hG dc3_worth_194 rfl ?_
                        refine s_getR hG kFc3_11 rfl dc3_worth_195 (fun v195 => ?_)
                        refine s_iload_n hG dc3_worth_198 rfl ?_
                        refine s_iconst (v := 1) hG dc3_worth_199 (by decide) ?_
                        refine s_isub hG dc3_worth_200 ?_
                        refine s_iald hG dc3_worth_201 (fun v201 => ?_)
                        refine s_iload hG dc3_worth_202 rfl ?_
                        refine s_ineg hG dc3_worth_204 ?_
                        refine s_aload_n hG dc3_worth_205 rfl ?_
                        refine s_getR hG kFc3_11 rfl dc3_worth_206 (fun v206 => ?_)
                        refine s_iload_n hG dc3_worth_209 rfl ?_
                        refine s_iald hG dc3_worth_210 (fun v210 => ?_)
                        refine s_callSi hG kMc3_18 (corc3_joined N _ _ _ _) rfl (by first | decide | omega) dc3_worth_211 rfl rfl (Nat.le_of_ble_eq_true rfl) ⟨Nat.le_of_ble_eq_true rfl, Nat.le_of_ble_eq_true rfl⟩ (fun p211 => ?_)
                        refine s_iast hG dc3_worth_214 (fun σ214 => ?_)
                        exact s_lv (lc rfl (lc rfl (lc rfl (lc rfl (lc rfl ln))))) (pc3_worth_215 hG ih _ _ _ _ _ _)
                      · refine s_iconst (v := 0) hG dc3_worth_182 (by decide) ?_
                        exact s_iret hG dc3_worth_183 rfl (Nat.le_of_ble_eq_true rfl) (Nat.le_of_ble_eq_true rfl)
                    · refine s_aload_n hG dc3_worth_156 rfl ?_
                      refine s_getR hG kFc3_11 rfl dc3_worth_157 (fun v157 => ?_)
                      refine s_iload_n hG dc3_worth_160 rfl ?_
                      refine s_iconst (v := 1) hG dc3_worth_161 (by decide) ?_
                      refine s_isub hG dc3_worth_162 ?_
                      refine s_iconst (v := 1) hG dc3_worth_163 (by decide) ?_
                      refine s_aload_n hG dc3_worth_164 rfl ?_
                      refine s_getR hG kFc3_11 rfl dc3_worth_165 (fun v165 => ?_)
                      refine s_iload_n hG dc3_worth_168 rfl ?_
                      refine s_iconst (v := 1) hG dc3_worth_169 (by decide) ?_
                      refine s_isub hG dc3_worth_170 ?_
                      refine s_iald hG dc3_worth_171 (fun v171 => ?_)
                      refine s_isub hG dc3_worth_172 ?_
                      refine s_iast hG dc3_worth_173 (fun σ173 => ?_)
                      refine s_goto hG 215 dc3_worth_174 (by decide) ?_
                      exact s_lv (lc rfl (lc rfl (lc rfl (lc rfl (lc rfl ln))))) (pc3_worth_215 hG ih _ _ _ _ _ _)
                  · refine s_aload_n hG dc3_worth_128 rfl ?_
                    refine s_getR hG kFc3_11 rfl dc3_worth_129 (fun v129 => ?_)
                    refine s_iinc (v := -1) hG dc3_worth_132 rfl (by decide) (by decide) ?_
                    refine s_iload_n hG dc3_worth_135 rfl ?_
                    refine s_iald hG dc3_worth_136 (fun v136 => ?_)
                    refine s_if_ne hG 144 dc3_worth_137 (by decide) ?_ ?_
                    · refine s_iconst (v := 0) hG dc3_worth_144 (by decide) ?_
                      exact s_lv (lc rfl (lc rfl (lc rfl (lc rfl ln)))) (pc3_worth_145 hG ih _ _ _ _ _ _)
                    · refine s_iconst (v := 1) hG dc3_worth_140 (by decide) ?_
                      refine s_goto hG 145 dc3_worth_141 (by decide) ?_
                      exact s_lv (lc rfl (lc rfl (lc rfl (lc rfl ln)))) (pc3_worth_145 hG ih _ _ _ _ _ _)
                · refine s_aload_n hG dc3_worth_112 rfl ?_
                  refine s_getR hG kFc3_11 rfl dc3_worth_113 (fun v113 => ?_)
                  refine s_iload_n hG dc3_worth_116 rfl ?_
                  refine s_iconst (v := 1) hG dc3_worth_117 (by decide) ?_
                  refine s_isub hG dc3_worth_118 ?_
                  refine s_iald hG dc3_worth_119 (fun v119 => ?_)
                  exact s_iret hG dc3_worth_120 rfl (Nat.le_of_ble_eq_true rfl) (Nat.le_of_ble_eq_true rfl)
              · refine s_iconst (v := 0) hG dc3_worth_103 (by decide) ?_
                exact s_iret hG dc3_worth_104 rfl (Nat.le_of_ble_eq_true rfl) (Nat.le_of_ble_eq_true rfl)
            · refine s_aload_n hG dc3_worth_79 rfl ?_
              refine s_getR hG kFc3_11 rfl dc3_worth_80 (fun v80 => ?_)
              refine s_iload_n hG dc3_worth_83 rfl ?_
              refine s_iinc (v := 1) hG dc3_worth_84 rfl (by decide) (by decide) ?_
              refine s_aload_n hG dc3_worth_87 rfl ?_
              refine s_iload hG dc3_worth_88 rfl ?_
              refine s_ineg hG dc3_worth_90 ?_
              refine s_iconst (v := 1) hG dc3_worth_91 (by decide) ?_
              refine s_isub hG dc3_worth_92 ?_
              refine s_iald hG dc3_worth_93 (fun v93 => ?_)
              refine s_iast hG dc3_worth_94 (fun σ94 => ?_)
              refine s_goto hG 215 dc3_worth_95 (by decide) ?_
              exact s_lv (lc rfl (lc rfl (lc rfl (lc rfl (lc rfl ln))))) (pc3_worth_215 hG ih _ _ _ _ _ _)
          · refine s_aload_n hG dc3_worth_57 rfl ?_
            refine s_getR hG kFc3_11 rfl dc3_worth_58 (fun v58 => ?_)
            refine s_iload_n hG dc3_worth_61 rfl ?_
            refine s_iinc (v := 1) hG dc3_worth_62 rfl (by decide) (by decide) ?_
            refine s_iload hG dc3_worth_65 rfl ?_
            refine s_iast hG dc3_worth_67 (fun σ67 => ?_)
            refine s_goto hG 215 dc3_worth_68 (by decide) ?_
            exact s_lv (lc rfl (lc rfl (lc rfl (lc rfl (lc rfl ln))))) (pc3_worth_215 hG ih _ _ _ _ _ _)
        · refine s_iload hG dc3_worth_36 rfl ?_
          refine s_bipush (v := -59) hG dc3_worth_38 (by decide) ?_
          refine s_icmp_eq hG 47 dc3_worth_40 (by decide) ?_ ?_
          · refine s_iconst (v := 0) hG dc3_worth_47 (by decide) ?_
            exact s_lv (lc rfl (lc rfl (lc rfl (lc rfl ln)))) (pc3_worth_48 hG ih _ _ _ _ _ _)
          · refine s_iconst (v := 1) hG dc3_worth_43 (by decide) ?_
            refine s_goto hG 48 dc3_worth_44 (by decide) ?_
            exact s_lv (lc rfl (lc rfl (lc rfl (lc rfl ln)))) (pc3_worth_48 hG ih _ _ _ _ _ _)
set_option maxRecDepth 20000 in
set_option maxHeartbeats 2000000 in
theorem corc3_worth {Ω : Om} (N : Nat) (a0 : Nat) (x1 : Option Nat) (σ : Me) : Cor Ω tc3_worth 2 0 0 [vR (some a0), vR x1] σ ιI (fc3_worth N a0 x1 σ) := by
  refine Cor.of (by decide +kernel) (Nat.le_of_ble_eq_true rfl) (fun Γ hG => ?_)
  unfold fc3_worth
  show Sim Ω Γ 0 0 ιI 6 0 [(0, vR (some a0)), (1, vR x1)] [] σ 0 0 _
  refine s_iconst (v := 0) hG dc3_worth_0 (by decide) ?_
  refine s_istore_n hG dc3_worth_1 (by decide) ?_
  refine s_iconst (v := 0) hG dc3_worth_2 (by decide) ?_
  refine s_istore_n hG dc3_worth_3 (by decide) ?_
  refine s_iconst (v := 0) hG dc3_worth_4 (by decide) ?_
  refine s_istore hG dc3_worth_5 (by decide) ?_
  exact s_lv (lc rfl (lc rfl (lc rfl (lc rfl (lc rfl ln))))) (pc3_worth_7 hG _ _ _ _ _ _ _)
def fc9_weigh (N : Nat) (a0 : Nat) (x1 : Option Nat) (x2 : Int32) (σ : Me) : Option (Unit × Me) :=
  (qR σ 9 1 (some a0)).bind fun v1 =>
  (qR σ 2 0 x1).bind fun v7 =>
  (ldI σ v7 x2).bind fun v11 =>
  (dr σ x1 (.inl 2)).bind fun a =>
  (fc2_withInterest N a v11 σ).bind fun p12 =>
  (stI p12.2 v1 x2 p12.1).bind fun σ15 =>
  (qR σ15 9 0 (some a0)).bind fun v17 =>
  if v17 = none then
    (qR σ15 9 2 (some a0)).bind fun v24 =>
    (qI σ15 9 7 (some a0)).bind fun v29 =>
    (qR σ15 9 1 (some a0)).bind fun v33 =>
    (ldI σ15 v33 x2).bind fun v37 =>
    (dvI v37 (2 : Int32)).bind fun v39 =>
    (stI σ15 v24 x2 (v29 + v39)).bind fun σ41 =>
    some ((), σ41)
  else
    (qR σ15 9 5 (some a0)).bind fun v44 =>
    (qR σ15 9 1 (some a0)).bind fun v49 =>
    (ldI σ15 v49 x2).bind fun v53 =>
    (stI σ15 v44 (0 : Int32) v53).bind fun σ54 =>
    (qR σ54 9 5 (some a0)).bind fun v56 =>
    (qR σ54 2 1 x1).bind fun v61 =>
    (ldI σ54 v61 x2).bind fun v65 =>
    (stI σ54 v56 (1 : Int32) v65).bind fun σ66 =>
    (qR σ66 9 5 (some a0)).bind fun v68 =>
    (qR σ66 2 2 x1).bind fun v73 =>
    (ldI σ66 v73 x2).bind fun v77 =>
    (stI σ66 v68 (2 : Int32) v77).bind fun σ78 =>
    (qR σ78 9 5 (some a0)).bind fun v80 =>
    (qR σ78 2 3 x1).bind fun v85 =>
    (ldI σ78 v85 x2).bind fun v89 =>
    (stI σ78 v80 (3 : Int32) v89).bind fun σ90 =>
    (qR σ90 9 5 (some a0)).bind fun v92 =>
    (qI σ90 9 7 (some a0)).bind fun v97 =>
    (stI σ90 v92 (4 : Int32) v97).bind fun σ100 =>
    (qR σ100 9 5 (some a0)).bind fun v102 =>
    (qI σ100 2 9 x1).bind fun v107 =>
    (stI σ100 v102 (5 : Int32) v107).bind fun σ110 =>
    (qR σ110 9 2 (some a0)).bind fun v112 =>
    (qI σ110 9 7 (some a0)).bind fun v117 =>
    (qR σ110 9 0 (some a0)).bind fun v122 =>
    (qR σ110 9 5 (some a0)).bind fun v126 =>
    (dr σ110 v122 (.inl 3)).bind fun a =>
    (fc3_worth N a v126 σ110).bind fun p129 =>
    (fc11_held N (0 : Int32) p129.1 (99 : Int32) p129.2).bind fun p134 =>
    (stI p134.2 v112 x2 (v117 + p134.1)).bind fun σ138 =>
    some ((), σ138)
set_option maxRecDepth 20000 in
set_option maxHeartbeats 2000000 in
theorem corc9_weigh {Ω : Om} (N : Nat) (a0 : Nat) (x1 : Option Nat) (x2 : Int32) (σ : Me) : Cor Ω tc9_weigh 3 0 0 [vR (some a0), vR x1, vI x2] σ ιV (fc9_weigh N a0 x1 x2 σ) := by
  refine Cor.of (by decide +kernel) (Nat.le_of_ble_eq_true rfl) (fun Γ hG => ?_)
  unfold fc9_weigh
  show Sim Ω Γ 0 0 ιV 3 0 [(0, vR (some a0)), (1, vR x1), (2, vI x2)] [] σ 0 0 _
  refine s_aload_n hG dc9_weigh_0 rfl ?_
  refine s_getR hG kFc9_9 rfl dc9_weigh_1 (fun v1 => ?_)
  refine s_iload_n hG dc9_weigh_4 rfl ?_
  refine s_aload_n hG dc9_weigh_5 rfl ?_
  refine s_aload_n hG dc9_weigh_6 rfl ?_
  refine s_getR hG kFc9_64 rfl dc9_weigh_7 (fun v7 => ?_)
  refine s_iload_n hG dc9_weigh_10 rfl ?_
  refine s_iald hG dc9_weigh_11 (fun v11 => ?_)
  refine s_callVi hG kMc9_67 (fun a => corc2_withInterest N a _ _) ⟨by decide, rfl⟩ rfl (by first | decide | omega) dc9_weigh_12 rfl rfl (Nat.le_of_ble_eq_true rfl) ⟨Nat.le_of_ble_eq_true rfl, Nat.le_of_ble_eq_true rfl⟩ (fun p12 => ?_)
  refine s_iast hG dc9_weigh_15 (fun σ15 => ?_)
  refine s_aload_n hG dc9_weigh_16 rfl ?_
  refine s_getR hG kFc9_71 rfl dc9_weigh_17 (fun v17 => ?_)
  refine s_ifnonnull hG 43 dc9_weigh_20 (by decide) ?_ ?_
  · refine s_aload_n hG dc9_weigh_43 rfl ?_
    refine s_getR hG kFc9_24 rfl dc9_weigh_44 (fun v44 => ?_)
    refine s_iconst (v := 0) hG dc9_weigh_47 (by decide) ?_
    refine s_aload_n hG dc9_weigh_48 rfl ?_
    refine s_getR hG kFc9_9 rfl dc9_weigh_49 (fun v49 => ?_)
    refine s_iload_n hG dc9_weigh_52 rfl ?_
    refine s_iald hG dc9_weigh_53 (fun v53 => ?_)
    refine s_iast hG dc9_weigh_54 (fun σ54 => ?_)
    refine s_aload_n hG dc9_weigh_55 rfl ?_
    refine s_getR hG kFc9_24 rfl dc9_weigh_56 (fun v56 => ?_)
    refine s_iconst (v := 1) hG dc9_weigh_59 (by decide) ?_
    refine s_aload_n hG dc9_weigh_60 rfl ?_
    refine s_getR hG kFc9_75 rfl dc9_weigh_61 (fun v61 => ?_)
    refine s_iload_n hG dc9_weigh_64 rfl ?_
    refine s_iald hG dc9_weigh_65 (fun v65 => ?_)
    refine s_iast hG dc9_weigh_66 (fun σ66 => ?_)
    refine s_aload_n hG dc9_weigh_67 rfl ?_
    refine s_getR hG kFc9_24 rfl dc9_weigh_68 (fun v68 => ?_)
    refine s_iconst (v := 2) hG dc9_weigh_71 (by decide) ?_
    refine s_aload_n hG dc9_weigh_72 rfl ?_
    refine s_getR hG kFc9_78 rfl dc9_weigh_73 (fun v73 => ?_)
    refine s_iload_n hG dc9_weigh_76 rfl ?_
    refine s_iald hG dc9_weigh_77 (fun v77 => ?_)
    refine s_iast hG dc9_weigh_78 (fun σ78 => ?_)
    refine s_aload_n hG dc9_weigh_79 rfl ?_
    refine s_getR hG kFc9_24 rfl dc9_weigh_80 (fun v80 => ?_)
    refine s_iconst (v := 3) hG dc9_weigh_83 (by decide) ?_
    refine s_aload_n hG dc9_weigh_84 rfl ?_
    refine s_getR hG kFc9_50 rfl dc9_weigh_85 (fun v85 => ?_)
    refine s_iload_n hG dc9_weigh_88 rfl ?_
    refine s_iald hG dc9_weigh_89 (fun v89 => ?_)
    refine s_iast hG dc9_weigh_90 (fun σ90 => ?_)
    refine s_aload_n hG dc9_weigh_91 rfl ?_
    refine s_getR hG kFc9_24 rfl dc9_weigh_92 (fun v92 => ?_)
    refine s_iconst (v := 4) hG dc9_weigh_95 (by decide) ?_
    refine s_aload_n hG dc9_weigh_96 rfl ?_
    refine s_getI hG kFc9_58 rfl dc9_weigh_97 (fun v97 => ?_)
    refine s_iast hG dc9_weigh_100 (fun σ100 => ?_)
    refine s_aload_n hG dc9_weigh_101 rfl ?_
    refine s_getR hG kFc9_24 rfl dc9_weigh_102 (fun v102 => ?_)
    refine s_iconst (v := 5) hG dc9_weigh_105 (by decide) ?_
    refine s_aload_n hG dc9_weigh_106 rfl ?_
    refine s_getI hG kFc9_81 rfl dc9_weigh_107 (fun v107 => ?_)
    refine s_iast hG dc9_weigh_110 (fun σ110 => ?_)
    refine s_aload_n hG dc9_weigh_111 rfl ?_
    refine s_getR hG kFc9_15 rfl dc9_weigh_112 (fun v112 => ?_)
    refine s_iload_n hG dc9_weigh_115 rfl ?_
    refine s_aload_n hG dc9_weigh_116 rfl ?_
    refine s_getI hG kFc9_58 rfl dc9_weigh_117 (fun v117 => ?_)
    refine s_iconst (v := 0) hG dc9_weigh_120 (by decide) ?_
    refine s_aload_n hG dc9_weigh_121 rfl ?_
    refine s_getR hG kFc9_71 rfl dc9_weigh_122 (fun v122 => ?_)
    refine s_aload_n hG dc9_weigh_125 rfl ?_
    refine s_getR hG kFc9_24 rfl dc9_weigh_126 (fun v126 => ?_)
    refine s_callVi hG kMc9_84 (fun a => corc3_worth N a _ _) ⟨by decide, rfl⟩ rfl (by first | decide | omega) dc9_weigh_129 rfl rfl (Nat.le_of_ble_eq_true rfl) ⟨Nat.le_of_ble_eq_true rfl, Nat.le_of_ble_eq_true rfl⟩ (fun p129 => ?_)
    refine s_bipush (v := 99) hG dc9_weigh_132 (by decide) ?_
    refine s_callNSi hG kMc9_90 (corc11_held N _ _ _ _) rfl (by first | decide | omega) dc9_weigh_134 rfl rfl (Nat.le_of_ble_eq_true rfl) ⟨Nat.le_of_ble_eq_true rfl, Nat.le_of_ble_eq_true rfl⟩ (fun p134 => ?_)
    refine s_iadd hG dc9_weigh_137 ?_
    refine s_iast hG dc9_weigh_138 (fun σ138 => ?_)
    exact s_vret hG dc9_weigh_139 rfl (Nat.le_of_ble_eq_true rfl) (Nat.le_of_ble_eq_true rfl)
  · refine s_aload_n hG dc9_weigh_23 rfl ?_
    refine s_getR hG kFc9_15 rfl dc9_weigh_24 (fun v24 => ?_)
    refine s_iload_n hG dc9_weigh_27 rfl ?_
    refine s_aload_n hG dc9_weigh_28 rfl ?_
    refine s_getI hG kFc9_58 rfl dc9_weigh_29 (fun v29 => ?_)
    refine s_aload_n hG dc9_weigh_32 rfl ?_
    refine s_getR hG kFc9_9 rfl dc9_weigh_33 (fun v33 => ?_)
    refine s_iload_n hG dc9_weigh_36 rfl ?_
    refine s_iald hG dc9_weigh_37 (fun v37 => ?_)
    refine s_iconst (v := 2) hG dc9_weigh_38 (by decide) ?_
    refine s_idiv hG dc9_weigh_39 (fun v39 => ?_)
    refine s_iadd hG dc9_weigh_40 ?_
    refine s_iast hG dc9_weigh_41 (fun σ41 => ?_)
    exact s_vret hG dc9_weigh_42 rfl (Nat.le_of_ble_eq_true rfl) (Nat.le_of_ble_eq_true rfl)
def fc9_weighAll_31 (N : Nat) : Nat → Option Nat → Option Nat → Int32 → Me → Option (Unit × Me)
  | 0, _, _, _, _ => none
  | n + 1, l0, l1, l3, σ =>
    (qI σ 9 6 l0).bind fun v33 =>
    if v33 ≤ l3 then
      some ((), σ)
    else
      (dr σ l0 (.inl 9)).bind fun a =>
      (fc9_weigh N a l1 l3 σ).bind fun p42 =>
      (fc9_weighAll_31 N n) l0 l1 (l3 + (1 : Int32)) p42.2
def fc9_weighAll_26 (N : Nat) (l0 : Option Nat) (l1 : Option Nat) (s0 : Option Nat) (s1 : Int32) (σ : Me) : Option (Unit × Me) :=
  (pI σ 9 7 s0 s1).bind fun σ26 =>
  fc9_weighAll_31 N N l0 l1 (0 : Int32) σ26
def fc9_weighAll (N : Nat) (a0 : Nat) (x1 : Option Nat) (x2 : Int32) (σ : Me) : Option (Unit × Me) :=
  (qI σ 2 5 x1).bind fun v2 =>
  (pI σ 9 6 (some a0) v2).bind fun σ5 =>
  (qI σ5 9 6 (some a0)).bind fun v10 =>
  if v10 = 0 then
    fc9_weighAll_26 N (some a0) x1 (some a0) (0 : Int32) σ5
  else
    (qI σ5 9 6 (some a0)).bind fun v22 =>
    (dvI x2 v22).bind fun v25 =>
    fc9_weighAll_26 N (some a0) x1 (some a0) v25 σ5
set_option maxRecDepth 20000 in
set_option maxHeartbeats 2000000 in
theorem pc9_weighAll_31 {Ω : Om} {Γ : Ga} {N : Nat} (hG : Good Ω Γ tc9_weighAll 4 0 0)  : ∀ (n : Nat) (l0 : Option Nat) (l1 : Option Nat) (l3 : Int32) (σ : Me), Sim Ω Γ 0 0 ιV 4 31 [(0, vR l0), (1, vR l1), (3, vI l3)] [] σ 0 0 (fc9_weighAll_31 N n l0 l1 l3 σ) := by
  intro n
  induction n with
  | zero => intros; exact s_none
  | succ n ih =>
    intro l0 l1 l3 σ
    unfold fc9_weighAll_31
    refine s_iload_n hG dc9_weighAll_31 rfl ?_
    refine s_aload_n hG dc9_weighAll_32 rfl ?_
    refine s_getI hG kFc9_38 rfl dc9_weighAll_33 (fun v33 => ?_)
    refine s_icmp_ge hG 51 dc9_weighAll_36 (by decide) ?_ ?_
    · exact s_vret hG dc9_weighAll_51 rfl (Nat.le_of_ble_eq_true rfl) (Nat.le_of_ble_eq_true rfl)
    · refine s_aload_n hG dc9_weighAll_39 rfl ?_
      refine s_aload_n hG dc9_weighAll_40 rfl ?_
      refine s_iload_n hG dc9_weighAll_41 rfl ?_
      refine s_callVv hG kMc9_61 (fun a => corc9_weigh N a _ _ _) ⟨by decide, rfl⟩ rfl (by first | decide | omega) dc9_weighAll_42 rfl rfl (Nat.le_of_ble_eq_true rfl) ⟨Nat.le_of_ble_eq_true rfl, Nat.le_of_ble_eq_true rfl⟩ (fun p42 => ?_)
      refine s_iinc (v := 1) hG dc9_weighAll_45 rfl (by decide) (by decide) ?_
      refine s_goto hG 31 dc9_weighAll_48 (by decide) ?_
      exact s_lv (lc rfl (lc rfl (lc rfl ln))) (ih _ _ _ _)
set_option maxRecDepth 20000 in
set_option maxHeartbeats 2000000 in
theorem pc9_weighAll_26 {Ω : Om} {Γ : Ga} {N : Nat} (hG : Good Ω Γ tc9_weighAll 4 0 0) (l0 : Option Nat) (l1 : Option Nat) (s0 : Option Nat) (s1 : Int32) (σ : Me) : Sim Ω Γ 0 0 ιV 4 26 [(0, vR l0), (1, vR l1)] [vI s1, vR s0] σ 0 0 (fc9_weighAll_26 N l0 l1 s0 s1 σ) := by
  unfold fc9_weighAll_26
  refine s_putI (fin := false) hG kFc9_58 rfl (fun h => by cases h) rfl (fun _ => rfl) (fun _ => rfl) dc9_weighAll_26 (fun σ26 => ?_)
  refine s_iconst (v := 0) hG dc9_weighAll_29 (by decide) ?_
  refine s_istore_n hG dc9_weighAll_30 (by decide) ?_
  exact s_lv (lc rfl (lc rfl (lc rfl ln))) (pc9_weighAll_31 hG _ _ _ _ _)
set_option maxRecDepth 20000 in
set_option maxHeartbeats 2000000 in
theorem corc9_weighAll {Ω : Om} (N : Nat) (a0 : Nat) (x1 : Option Nat) (x2 : Int32) (σ : Me) : Cor Ω tc9_weighAll 4 0 0 [vR (some a0), vR x1, vI x2] σ ιV (fc9_weighAll N a0 x1 x2 σ) := by
  refine Cor.of (by decide +kernel) (Nat.le_of_ble_eq_true rfl) (fun Γ hG => ?_)
  unfold fc9_weighAll
  show Sim Ω Γ 0 0 ιV 4 0 [(0, vR (some a0)), (1, vR x1), (2, vI x2)] [] σ 0 0 _
  refine s_aload_n hG dc9_weighAll_0 rfl ?_
  refine s_aload_n hG dc9_weighAll_1 rfl ?_
  refine s_getI hG kFc9_57 rfl dc9_weighAll_2 (fun v2 => ?_)
  refine s_putI (fin := false) hG kFc9_38 rfl (fun h => by cases h) rfl (fun _ => rfl) (fun _ => rfl) dc9_weighAll_5 (fun σ5 => ?_)
  refine s_aload_n hG dc9_weighAll_8 rfl ?_
  refine s_aload_n hG dc9_weighAll_9 rfl ?_
  refine s_getI hG kFc9_38 rfl dc9_weighAll_10 (fun v10 => ?_)
  refine s_if_ne hG 20 dc9_weighAll_13 (by decide) ?_ ?_
  · refine s_iload_n hG dc9_weighAll_20 rfl ?_
    refine s_aload_n hG dc9_weighAll_21 rfl ?_
    refine s_getI hG kFc9_38 rfl dc9_weighAll_22 (fun v22 => ?_)
    refine s_idiv hG dc9_weighAll_25 (fun v25 => ?_)
    exact s_lv (lc rfl (lc rfl ln)) (pc9_weighAll_26 hG _ _ _ _ _)
  · refine s_iconst (v := 0) hG dc9_weighAll_16 (by decide) ?_
    refine s_goto hG 26 dc9_weighAll_17 (by decide) ?_
    exact s_lv (lc rfl (lc rfl ln)) (pc9_weighAll_26 hG _ _ _ _ _)
def fc9_look_107 (N : Nat) (K18 : Option Nat → Option Nat → Int32 → Int32 → Me → Option (Unit × Me)) (l0 : Option Nat) (l1 : Option Nat) (l2 : Int32) (l3 : Int32) (σ : Me) : Option (Unit × Me) :=
  K18 l0 l1 l2 (l3 + (1 : Int32)) σ
def fc9_look_18 (N : Nat) : Nat → Option Nat → Option Nat → Int32 → Int32 → Me → Option (Unit × Me)
  | 0, _, _, _, _, _ => none
  | n + 1, l0, l1, l2, l3, σ =>
    (qI σ 9 6 l0).bind fun v20 =>
    if v20 ≤ l3 then
      some ((), σ)
    else
      (qR σ 9 3 l0).bind fun v27 =>
      (dr σ l0 (.inl 9)).bind fun a =>
      (fc9_fallOn N a l3 l2 σ).bind fun p34 =>
      (stI p34.2 v27 l3 p34.1).bind fun σ37 =>
      (qR σ37 9 4 l0).bind fun v39 =>
      (stI σ37 v39 l3 (0 : Int32)).bind fun σ44 =>
      (qR σ44 9 3 l0).bind fun v46 =>
      (ldI σ44 v46 l3).bind fun v50 =>
      (qI σ44 2 7 l1).bind fun v52 =>
      if v50 < v52 then
        (qR σ44 9 4 l0).bind fun v74 =>
        (qR σ44 2 3 l1).bind fun v79 =>
        (ldI σ44 v79 l3).bind fun v83 =>
        (dr σ44 l0 (.inl 9)).bind fun a =>
        (fc9_usedUp N a l1 l3 σ44).bind fun p87 =>
        (stI p87.2 v74 l3 (v83 * p87.1)).bind fun σ91 =>
        (qI σ91 9 9 l0).bind fun v94 =>
        (qR σ91 9 4 l0).bind fun v98 =>
        (ldI σ91 v98 l3).bind fun v102 =>
        (pI σ91 9 9 l0 (v94 + v102)).bind fun σ104 =>
        fc9_look_107 N (fc9_look_18 N n) l0 l1 l2 l3 σ104
      else
        (qI σ44 9 8 l0).bind fun v60 =>
        (pI σ44 9 8 l0 (v60 ||| ((1 : Int32) <<< (l3 &&& 31)))).bind fun σ67 =>
        fc9_look_107 N (fc9_look_18 N n) l0 l1 l2 l3 σ67
def fc9_look (N : Nat) (a0 : Nat) (x1 : Option Nat) (x2 : Int32) (σ : Me) : Option (Unit × Me) :=
  (dr σ (some a0) (.inl 9)).bind fun a =>
  (fc9_weighAll N a x1 x2 σ).bind fun p3 =>
  (pI p3.2 9 8 (some a0) (0 : Int32)).bind fun σ8 =>
  (pI σ8 9 9 (some a0) (0 : Int32)).bind fun σ13 =>
  fc9_look_18 N N (some a0) x1 x2 (0 : Int32) σ13
set_option maxRecDepth 20000 in
set_option maxHeartbeats 2000000 in
theorem pc9_look_107 {Ω : Om} {Γ : Ga} {N : Nat} (hG : Good Ω Γ tc9_look 5 0 0) {K18 : Option Nat → Option Nat → Int32 → Int32 → Me → Option (Unit × Me)} (hK18 : ∀ (l0 : Option Nat) (l1 : Option Nat) (l2 : Int32) (l3 : Int32) (σ : Me), Sim Ω Γ 0 0 ιV 4 18 [(0, vR l0), (1, vR l1), (2, vI l2), (3, vI l3)] [] σ 0 0 (K18 l0 l1 l2 l3 σ)) (l0 : Option Nat) (l1 : Option Nat) (l2 : Int32) (l3 : Int32) (σ : Me) : Sim Ω Γ 0 0 ιV 4 107 [(0, vR l0), (1, vR l1), (2, vI l2), (3, vI l3)] [] σ 0 0 (fc9_look_107 N K18 l0 l1 l2 l3 σ) := by
  unfold fc9_look_107
  refine s_iinc (v := 1) hG dc9_look_107 rfl (by decide) (by decide) ?_
  refine s_goto hG 18 dc9_look_110 (by decide) ?_
  exact s_lv (lc rfl (lc rfl (lc rfl (lc rfl ln)))) (hK18 _ _ _ _ _)
set_option maxRecDepth 20000 in
set_option maxHeartbeats 2000000 in
theorem pc9_look_18 {Ω : Om} {Γ : Ga} {N : Nat} (hG : Good Ω Γ tc9_look 5 0 0)  : ∀ (n : Nat) (l0 : Option Nat) (l1 : Option Nat) (l2 : Int32) (l3 : Int32) (σ : Me), Sim Ω Γ 0 0 ιV 4 18 [(0, vR l0), (1, vR l1), (2, vI l2), (3, vI l3)] [] σ 0 0 (fc9_look_18 N n l0 l1 l2 l3 σ) := by
  intro n
  induction n with
  | zero => intros; exact s_none
  | succ n ih =>
    intro l0 l1 l2 l3 σ
    unfold fc9_look_18
    refine s_iload_n hG dc9_look_18 rfl ?_
    refine s_aload_n hG dc9_look_19 rfl ?_
    refine s_getI hG kFc9_38 rfl dc9_look_20 (fun v20 => ?_)
    refine s_icmp_ge hG 113 dc9_look_23 (by decide) ?_ ?_
    · exact s_vret hG dc9_look_113 rfl (Nat.le_of_ble_eq_true rfl) (Nat.le_of_ble_eq_true rfl)
    · refine s_aload_n hG dc9_look_26 rfl ?_
      refine s_getR hG kFc9_18 rfl dc9_look_27 (fun v27 => ?_)
      refine s_iload_n hG dc9_look_30 rfl ?_
      refine s_aload_n hG dc9_look_31 rfl ?_
      refine s_iload_n hG dc9_look_32 rfl ?_
      refine s_iload_n hG dc9_look_33 rfl ?_
      refine s_callVi hG kMc9_41 (fun a => corc9_fallOn N a _ _ _) ⟨by decide, rfl⟩ rfl (by first | decide | omega) dc9_look_34 rfl rfl (Nat.le_of_ble_eq_true rfl) ⟨Nat.le_of_ble_eq_true rfl, Nat.le_of_ble_eq_true rfl⟩ (fun p34 => ?_)
      refine s_iast hG dc9_look_37 (fun σ37 => ?_)
      refine s_aload_n hG dc9_look_38 rfl ?_
      refine s_getR hG kFc9_21 rfl dc9_look_39 (fun v39 => ?_)
      refine s_iload_n hG dc9_look_42 rfl ?_
      refine s_iconst (v := 0) hG dc9_look_43 (by decide) ?_
      refine s_iast hG dc9_look_44 (fun σ44 => ?_)
      refine s_aload_n hG dc9_look_45 rfl ?_
      refine s_getR hG kFc9_18 rfl dc9_look_46 (fun v46 => ?_)
      refine s_iload_n hG dc9_look_49 rfl ?_
      refine s_iald hG dc9_look_50 (fun v50 => ?_)
      refine s_aload_n hG dc9_look_51 rfl ?_
      refine s_getI hG kFc9_45 rfl dc9_look_52 (fun v52 => ?_)
      refine s_icmp_lt hG 73 dc9_look_55 (by decide) ?_ ?_
      · refine s_aload_n hG dc9_look_73 rfl ?_
        refine s_getR hG kFc9_21 rfl dc9_look_74 (fun v74 => ?_)
        refine s_iload_n hG dc9_look_77 rfl ?_
        refine s_aload_n hG dc9_look_78 rfl ?_
        refine s_getR hG kFc9_50 rfl dc9_look_79 (fun v79 => ?_)
        refine s_iload_n hG dc9_look_82 rfl ?_
        refine s_iald hG dc9_look_83 (fun v83 => ?_)
        refine s_aload_n hG dc9_look_84 rfl ?_
        refine s_aload_n hG dc9_look_85 rfl ?_
        refine s_iload_n hG dc9_look_86 rfl ?_
        refine s_callVi hG kMc9_53 (fun a => corc9_usedUp N a _ _ _) ⟨by decide, rfl⟩ rfl (by first | decide | omega) dc9_look_87 rfl rfl (Nat.le_of_ble_eq_true rfl) ⟨Nat.le_of_ble_eq_true rfl, Nat.le_of_ble_eq_true rfl⟩ (fun p87 => ?_)
        refine s_imul hG dc9_look_90 ?_
        refine s_iast hG dc9_look_91 (fun σ91 => ?_)
        refine s_aload_n hG dc9_look_92 rfl ?_
        refine s_dup hG dc9_look_93 rfl ?_
        refine s_getI hG kFc9_35 rfl dc9_look_94 (fun v94 => ?_)
        refine s_aload_n hG dc9_look_97 rfl ?_
        refine s_getR hG kFc9_21 rfl dc9_look_98 (fun v98 => ?_)
        refine s_iload_n hG dc9_look_101 rfl ?_
        refine s_iald hG dc9_look_102 (fun v102 => ?_)
        refine s_iadd hG dc9_look_103 ?_
        refine s_putI (fin := false) hG kFc9_35 rfl (fun h => by cases h) rfl (fun _ => rfl) (fun _ => rfl) dc9_look_104 (fun σ104 => ?_)
        exact s_lv (lc rfl (lc rfl (lc rfl (lc rfl ln)))) (pc9_look_107 hG ih _ _ _ _ _)
      · refine s_aload_n hG dc9_look_58 rfl ?_
        refine s_dup hG dc9_look_59 rfl ?_
        refine s_getI hG kFc9_31 rfl dc9_look_60 (fun v60 => ?_)
        refine s_iconst (v := 1) hG dc9_look_63 (by decide) ?_
        refine s_iload_n hG dc9_look_64 rfl ?_
        refine s_ishl hG dc9_look_65 ?_
        refine s_ior hG dc9_look_66 ?_
        refine s_putI (fin := false) hG kFc9_31 rfl (fun h => by cases h) rfl (fun _ => rfl) (fun _ => rfl) dc9_look_67 (fun σ67 => ?_)
        refine s_goto hG 107 dc9_look_70 (by decide) ?_
        exact s_lv (lc rfl (lc rfl (lc rfl (lc rfl ln)))) (pc9_look_107 hG ih _ _ _ _ _)
set_option maxRecDepth 20000 in
set_option maxHeartbeats 2000000 in
theorem corc9_look {Ω : Om} (N : Nat) (a0 : Nat) (x1 : Option Nat) (x2 : Int32) (σ : Me) : Cor Ω tc9_look 5 0 0 [vR (some a0), vR x1, vI x2] σ ιV (fc9_look N a0 x1 x2 σ) := by
  refine Cor.of (by decide +kernel) (Nat.le_of_ble_eq_true rfl) (fun Γ hG => ?_)
  unfold fc9_look
  show Sim Ω Γ 0 0 ιV 4 0 [(0, vR (some a0)), (1, vR x1), (2, vI x2)] [] σ 0 0 _
  refine s_aload_n hG dc9_look_0 rfl ?_
  refine s_aload_n hG dc9_look_1 rfl ?_
  refine s_iload_n hG dc9_look_2 rfl ?_
  refine s_callVv hG kMc9_27 (fun a => corc9_weighAll N a _ _ _) ⟨by decide, rfl⟩ rfl (by first | decide | omega) dc9_look_3 rfl rfl (Nat.le_of_ble_eq_true rfl) ⟨Nat.le_of_ble_eq_true rfl, Nat.le_of_ble_eq_true rfl⟩ (fun p3 => ?_)
  refine s_aload_n hG dc9_look_6 rfl ?_
  refine s_iconst (v := 0) hG dc9_look_7 (by decide) ?_
  refine s_putI (fin := false) hG kFc9_31 rfl (fun h => by cases h) rfl (fun _ => rfl) (fun _ => rfl) dc9_look_8 (fun σ8 => ?_)
  refine s_aload_n hG dc9_look_11 rfl ?_
  refine s_iconst (v := 0) hG dc9_look_12 (by decide) ?_
  refine s_putI (fin := false) hG kFc9_35 rfl (fun h => by cases h) rfl (fun _ => rfl) (fun _ => rfl) dc9_look_13 (fun σ13 => ?_)
  refine s_iconst (v := 0) hG dc9_look_16 (by decide) ?_
  refine s_istore_n hG dc9_look_17 (by decide) ?_
  exact s_lv (lc rfl (lc rfl (lc rfl (lc rfl ln)))) (pc9_look_18 hG _ _ _ _ _ _)
