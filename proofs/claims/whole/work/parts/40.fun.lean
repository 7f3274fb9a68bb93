def fc12_rests_220 (N : Nat) (K75 : Option Nat → Int32 → Int32 → Int32 → Me → Option (Int32 × Me)) (K85 : Option Nat → Int32 → Int32 → Int32 → Int32 → Me → Option (Int32 × Me)) (l0 : Option Nat) (l4 : Int32) (l5 : Int32) (l6 : Int32) (l7 : Int32) (σ : Me) : Option (Int32 × Me) :=
  K85 l0 l4 l5 l6 (l7 + (1 : Int32)) σ
def fc12_rests_185 (N : Nat) (K75 : Option Nat → Int32 → Int32 → Int32 → Me → Option (Int32 × Me)) (K85 : Option Nat → Int32 → Int32 → Int32 → Int32 → Me → Option (Int32 × Me)) (K98 : Option Nat → Int32 → Int32 → Int32 → Int32 → Int32 → Int32 → Me → Option (Int32 × Me)) (l0 : Option Nat) (l4 : Int32) (l5 : Int32) (l6 : Int32) (l7 : Int32) (l9 : Int32) (s0 : Int32) (σ : Me) : Option (Int32 × Me) :=
  K98 l0 l4 l5 l6 l7 s0 (l9 + (1 : Int32)) σ
def fc12_rests_184 (N : Nat) (K75 : Option Nat → Int32 → Int32 → Int32 → Me → Option (Int32 × Me)) (K85 : Option Nat → Int32 → Int32 → Int32 → Int32 → Me → Option (Int32 × Me)) (K98 : Option Nat → Int32 → Int32 → Int32 → Int32 → Int32 → Int32 → Me → Option (Int32 × Me)) (l0 : Option Nat) (l4 : Int32) (l5 : Int32) (l6 : Int32) (l7 : Int32) (l9 : Int32) (σ : Me) : Option (Int32 × Me) :=
  fc12_rests_185 N K75 K85 K98 l0 l4 l5 l6 l7 l9 (0 : Int32) σ
def fc12_rests_98 (N : Nat) (K75 : Option Nat → Int32 → Int32 → Int32 → Me → Option (Int32 × Me)) (K85 : Option Nat → Int32 → Int32 → Int32 → Int32 → Me → Option (Int32 × Me)) : Nat → Option Nat → Int32 → Int32 → Int32 → Int32 → Int32 → Int32 → Me → Option (Int32 × Me)
  | 0, _, _, _, _, _, _, _, _ => none
  | n + 1, l0, l4, l5, l6, l7, l8, l9, σ =>
    if (6 : Int32) ≤ l9 then
      if l8 = 0 then
        fc12_rests_220 N K75 K85 l0 l4 l5 l6 l7 σ
      else
        if l5 = l4 then
          some ((((10 : Int32) * l6) + l7), σ)
        else
          fc12_rests_220 N K75 K85 l0 l4 (l5 + (1 : Int32)) l6 l7 σ
    else
      if l8 = 0 then
        fc12_rests_184 N K75 K85 (fc12_rests_98 N K75 K85 n) l0 l4 l5 l6 l7 l9 σ
      else
        (qR σ 12 46 l0).bind fun v111 =>
        (ldI σ v111 (((12 : Int32) * l9) + ((2 : Int32) * l7))).bind fun v124 =>
        (qR σ 12 46 l0).bind fun v126 =>
        (ldI σ v126 (((12 : Int32) * l6) + ((2 : Int32) * l7))).bind fun v139 =>
        if v139 < v124 then
          fc12_rests_184 N K75 K85 (fc12_rests_98 N K75 K85 n) l0 l4 l5 l6 l7 l9 σ
        else
          (qR σ 12 46 l0).bind fun v144 =>
          (ldI σ v144 ((((12 : Int32) * l6) + ((2 : Int32) * l9)) + (1 : Int32))).bind fun v159 =>
          (qR σ 12 46 l0).bind fun v161 =>
          (ldI σ v161 ((((12 : Int32) * l6) + ((2 : Int32) * l7)) + (1 : Int32))).bind fun v176 =>
          if v176 < v159 then
            fc12_rests_184 N K75 K85 (fc12_rests_98 N K75 K85 n) l0 l4 l5 l6 l7 l9 σ
          else
            fc12_rests_185 N K75 K85 (fc12_rests_98 N K75 K85 n) l0 l4 l5 l6 l7 l9 (1 : Int32) σ
def fc12_rests_85 (N : Nat) (K75 : Option Nat → Int32 → Int32 → Int32 → Me → Option (Int32 × Me)) : Nat → Option Nat → Int32 → Int32 → Int32 → Int32 → Me → Option (Int32 × Me)
  | 0, _, _, _, _, _, _ => none
  | n + 1, l0, l4, l5, l6, l7, σ =>
    if (6 : Int32) ≤ l7 then
      K75 l0 l4 l5 (l6 + (1 : Int32)) σ
    else
      fc12_rests_98 N K75 (fc12_rests_85 N K75 n) N l0 l4 l5 l6 l7 (1 : Int32) (0 : Int32) σ
def fc12_rests_75 (N : Nat) : Nat → Option Nat → Int32 → Int32 → Int32 → Me → Option (Int32 × Me)
  | 0, _, _, _, _, _ => none
  | n + 1, l0, l4, l5, l6, σ =>
    if (6 : Int32) ≤ l6 then
      if l4 = (-1 : Int32) then
        some (l5, σ)
      else
        some ((-1 : Int32), σ)
    else
      fc12_rests_85 N (fc12_rests_75 N n) N l0 l4 l5 l6 (0 : Int32) σ
def fc12_rests_26 (N : Nat) : Nat → Option Nat → Int32 → Int32 → Int32 → Int32 → Int32 → Me → Option (Int32 × Me)
  | 0, _, _, _, _, _, _, _ => none
  | n + 1, l0, l1, l2, l3, l4, l5, σ =>
    if (72 : Int32) ≤ l5 then
      fc12_rests_75 N N l0 l4 (0 : Int32) (0 : Int32) σ
    else
      (qR σ 12 46 l0).bind fun v34 =>
      (dvI l5 (12 : Int32)).bind fun v47 =>
      (dvI l5 (2 : Int32)).bind fun v51 =>
      (rmI v51 (6 : Int32)).bind fun v54 =>
      (rmI l5 (2 : Int32)).bind fun v58 =>
      (dr σ l0 (.inl 12)).bind fun a =>
      (fc12_gameOf N a l1 l2 l3 v47 v54 v58 σ).bind fun p59 =>
      (stI p59.2 v34 l5 p59.1).bind fun σ62 =>
      (fc12_rests_26 N n) l0 l1 l2 l3 l4 (l5 + (1 : Int32)) σ62
def fc12_rests (N : Nat) (a0 : Nat) (x1 : Int32) (x2 : Int32) (x3 : Int32) (x4 : Int32) (σ : Me) : Option (Int32 × Me) :=
  (pI σ 12 0 (some a0) (0 : Int32)).bind fun σ2 =>
  (dr σ2 (some a0) (.inl 12)).bind fun a =>
  (fc12_isGame N a x1 x2 x3 σ2).bind fun p9 =>
  if p9.1 = 0 then
    some ((-1 : Int32), p9.2)
  else
    if (-1 : Int32) ≤ x4 then
      fc12_rests_26 N N (some a0) x1 x2 x3 x4 (0 : Int32) p9.2
    else
      some ((-1 : Int32), p9.2)
set_option maxRecDepth 20000 in
set_option maxHeartbeats 2000000 in
theorem pc12_rests_220 {Ω : Om} {Γ : Ga} {N : Nat} (hG : Good Ω Γ tc12_rests 143 0 0) {K75 : Option Nat → Int32 → Int32 → Int32 → Me → Option (Int32 × Me)} {K85 : Option Nat → Int32 → Int32 → Int32 → Int32 → Me → Option (Int32 × Me)} (hK75 : ∀ (l0 : Option Nat) (l4 : Int32) (l5 : Int32) (l6 : Int32) (σ : Me), Sim Ω Γ 0 0 ιI 10 75 [(0, vR l0), (4, vI l4), (5, vI l5), (6, vI l6)] [] σ 0 0 (K75 l0 l4 l5 l6 σ)) (hK85 : ∀ (l0 : Option Nat) (l4 : Int32) (l5 : Int32) (l6 : Int32) (l7 : Int32) (σ : Me), Sim Ω Γ 0 0 ιI 10 85 [(0, vR l0), (4, vI l4), (5, vI l5), (6, vI l6), (7, vI l7)] [] σ 0 0 (K85 l0 l4 l5 l6 l7 σ)) (l0 : Option Nat) (l4 : Int32) (l5 : Int32) (l6 : Int32) (l7 : Int32) (σ : Me) : Sim Ω Γ 0 0 ιI 10 220 [(0, vR l0), (4, vI l4), (5, vI l5), (6, vI l6), (7, vI l7)] [] σ 0 0 (fc12_rests_220 N K75 K85 l0 l4 l5 l6 l7 σ) := by
  unfold fc12_rests_220
  refine s_iinc (v := 1) hG dc12_rests_220 rfl (by decide) (by decide) ?_
  refine s_goto hG 85 dc12_rests_223 (by decide) ?_
  exact s_lv (lc rfl (lc rfl (lc rfl (lc rfl (lc rfl ln))))) (hK85 _ _ _ _ _ _)
set_option maxRecDepth 20000 in
set_option maxHeartbeats 2000000 in
theorem pc12_rests_185 {Ω : Om} {Γ : Ga} {N : Nat} (hG : Good Ω Γ tc12_rests 143 0 0) {K75 : Option Nat → Int32 → Int32 → Int32 → Me → Option (Int32 × Me)} {K85 : Option Nat → Int32 → Int32 → Int32 → Int32 → Me → Option (Int32 × Me)} {K98 : Option Nat → Int32 → Int32 → Int32 → Int32 → Int32 → Int32 → Me → Option (Int32 × Me)} (hK75 : ∀ (l0 : Option Nat) (l4 : Int32) (l5 : Int32) (l6 : Int32) (σ : Me), Sim Ω Γ 0 0 ιI 10 75 [(0, vR l0), (4, vI l4), (5, vI l5), (6, vI l6)] [] σ 0 0 (K75 l0 l4 l5 l6 σ)) (hK85 : ∀ (l0 : Option Nat) (l4 : Int32) (l5 : Int32) (l6 : Int32) (l7 : Int32) (σ : Me), Sim Ω Γ 0 0 ιI 10 85 [(0, vR l0), (4, vI l4), (5, vI l5), (6, vI l6), (7, vI l7)] [] σ 0 0 (K85 l0 l4 l5 l6 l7 σ)) (hK98 : ∀ (l0 : Option Nat) (l4 : Int32) (l5 : Int32) (l6 : Int32) (l7 : Int32) (l8 : Int32) (l9 : Int32) (σ : Me), Sim Ω Γ 0 0 ιI 10 98 [(0, vR l0), (4, vI l4), (5, vI l5), (6, vI l6), (7, vI l7), (8, vI l8), (9, vI l9)] [] σ 0 0 (K98 l0 l4 l5 l6 l7 l8 l9 σ)) (l0 : Option Nat) (l4 : Int32) (l5 : Int32) (l6 : Int32) (l7 : Int32) (l9 : Int32) (s0 : Int32) (σ : Me) : Sim Ω Γ 0 0 ιI 10 185 [(0, vR l0), (4, vI l4), (5, vI l5), (6, vI l6), (7, vI l7), (9, vI l9)] [vI s0] σ 0 0 (fc12_rests_185 N K75 K85 K98 l0 l4 l5 l6 l7 l9 s0 σ) := by
  unfold fc12_rests_185
  refine s_istore hG dc12_rests_185 (by decide) ?_
  refine s_iinc (v := 1) hG dc12_rests_187 rfl (by decide) (by decide) ?_
  refine s_goto hG 98 dc12_rests_190 (by decide) ?_
  exact s_lv (lc rfl (lc rfl (lc rfl (lc rfl (lc rfl (lc rfl (lc rfl ln))))))) (hK98 _ _ _ _ _ _ _ _)
set_option maxRecDepth 20000 in
set_option maxHeartbeats 2000000 in
theorem pc12_rests_184 {Ω : Om} {Γ : Ga} {N : Nat} (hG : Good Ω Γ tc12_rests 143 0 0) {K75 : Option Nat → Int32 → Int32 → Int32 → Me → Option (Int32 × Me)} {K85 : Option Nat → Int32 → Int32 → Int32 → Int32 → Me → Option (Int32 × Me)} {K98 : Option Nat → Int32 → Int32 → Int32 → Int32 → Int32 → Int32 → Me → Option (Int32 × Me)} (hK75 : ∀ (l0 : Option Nat) (l4 : Int32) (l5 : Int32) (l6 : Int32) (σ : Me), Sim Ω Γ 0 0 ιI 10 75 [(0, vR l0), (4, vI l4), (5, vI l5), (6, vI l6)] [] σ 0 0 (K75 l0 l4 l5 l6 σ)) (hK85 : ∀ (l0 : Option Nat) (l4 : Int32) (l5 : Int32) (l6 : Int32) (l7 : Int32) (σ : Me), Sim Ω Γ 0 0 ιI 10 85 [(0, vR l0), (4, vI l4), (5, vI l5), (6, vI l6), (7, vI l7)] [] σ 0 0 (K85 l0 l4 l5 l6 l7 σ)) (hK98 : ∀ (l0 : Option Nat) (l4 : Int32) (l5 : Int32) (l6 : Int32) (l7 : Int32) (l8 : Int32) (l9 : Int32) (σ : Me), Sim Ω Γ 0 0 ιI 10 98 [(0, vR l0), (4, vI l4), (5, vI l5), (6, vI l6), (7, vI l7), (8, vI l8), (9, vI l9)] [] σ 0 0 (K98 l0 l4 l5 l6 l7 l8 l9 σ)) (l0 : Option Nat) (l4 : Int32) (l5 : Int32) (l6 : Int32) (l7 : Int32) (l9 : Int32) (σ : Me) : Sim Ω Γ 0 0 ιI 10 184 [(0, vR l0), (4, vI l4), (5, vI l5), (6, vI l6), (7, vI l7), (9, vI l9)] [] σ 0 0 (fc12_rests_184 N K75 K85 K98 l0 l4 l5 l6 l7 l9 σ) := by
  unfold fc12_rests_184
  refine s_iconst (v := 0) hG dc12_rests_184 (by decide) ?_
  exact s_lv (lc rfl (lc rfl (lc rfl (lc rfl (lc rfl (lc rfl ln)))))) (pc12_rests_185 hG hK75 hK85 hK98 _ _ _ _ _ _ _ _)
set_option maxRecDepth 20000 in
set_option maxHeartbeats 2000000 in
theorem pc12_rests_98 {Ω : Om} {Γ : Ga} {N : Nat} (hG : Good Ω Γ tc12_rests 143 0 0) {K75 : Option Nat → Int32 → Int32 → Int32 → Me → Option (Int32 × Me)} {K85 : Option Nat → Int32 → Int32 → Int32 → Int32 → Me → Option (Int32 × Me)} (hK75 : ∀ (l0 : Option Nat) (l4 : Int32) (l5 : Int32) (l6 : Int32) (σ : Me), Sim Ω Γ 0 0 ιI 10 75 [(0, vR l0), (4, vI l4), (5, vI l5), (6, vI l6)] [] σ 0 0 (K75 l0 l4 l5 l6 σ)) (hK85 : ∀ (l0 : Option Nat) (l4 : Int32) (l5 : Int32) (l6 : Int32) (l7 : Int32) (σ : Me), Sim Ω Γ 0 0 ιI 10 85 [(0, vR l0), (4, vI l4), (5, vI l5), (6, vI l6), (7, vI l7)] [] σ 0 0 (K85 l0 l4 l5 l6 l7 σ))  : ∀ (n : Nat) (l0 : Option Nat) (l4 : Int32) (l5 : Int32) (l6 : Int32) (l7 : Int32) (l8 : Int32) (l9 : Int32) (σ : Me), Sim Ω Γ 0 0 ιI 10 98 [(0, vR l0), (4, vI l4), (5, vI l5), (6, vI l6), (7, vI l7), (8, vI l8), (9, vI l9)] [] σ 0 0 (fc12_rests_98 N K75 K85 n l0 l4 l5 l6 l7 l8 l9 σ) := by
  intro n
  induction n with
  | zero => intros; exact s_none
  | succ n ih =>
    intro l0 l4 l5 l6 l7 l8 l9 σ
    unfold fc12_rests_98
    refine s_iload hG dc12_rests_98 rfl ?_
    refine s_bipush (v := 6) hG dc12_rests_100 (by decide) ?_
    refine s_icmp_ge hG 193 dc12_rests_102 (by decide) ?_ ?_
    · refine s_iload hG dc12_rests_193 rfl ?_
      refine s_if_ne hG 201 dc12_rests_195 (by decide) ?_ ?_
      · refine s_iload hG dc12_rests_201 rfl ?_
        refine s_iload hG dc12_rests_203 rfl ?_
        refine s_icmp_ne hG 217 dc12_rests_205 (by decide) ?_ ?_
        · refine s_iinc (v := 1) hG dc12_rests_217 rfl (by decide) (by decide) ?_
          exact s_lv (lc rfl (lc rfl (lc rfl (lc rfl (lc rfl ln))))) (pc12_rests_220 hG hK75 hK85 _ _ _ _ _ _)
        · refine s_bipush (v := 10) hG dc12_rests_208 (by decide) ?_
          refine s_iload hG dc12_rests_210 rfl ?_
          refine s_imul hG dc12_rests_212 ?_
          refine s_iload hG dc12_rests_213 rfl ?_
          refine s_iadd hG dc12_rests_215 ?_
          exact s_iret hG dc12_rests_216 rfl (Nat.le_of_ble_eq_true rfl) (Nat.le_of_ble_eq_true rfl)
      · refine s_goto hG 220 dc12_rests_198 (by decide) ?_
        exact s_lv (lc rfl (lc rfl (lc rfl (lc rfl (lc rfl ln))))) (pc12_rests_220 hG hK75 hK85 _ _ _ _ _ _)
    · refine s_iload hG dc12_rests_105 rfl ?_
      refine s_if_eq hG 184 dc12_rests_107 (by decide) ?_ ?_
      · exact s_lv (lc rfl (lc rfl (lc rfl (lc rfl (lc rfl (lc rfl ln)))))) (pc12_rests_184 hG hK75 hK85 ih _ _ _ _ _ _ _)
      · refine s_aload_n hG dc12_rests_110 rfl ?_
        refine s_getR hG kFc12_94 rfl dc12_rests_111 (fun v111 => ?_)
        refine s_bipush (v := 12) hG dc12_rests_114 (by decide) ?_
        refine s_iload hG dc12_rests_116 rfl ?_
        refine s_imul hG dc12_rests_118 ?_
        refine s_iconst (v := 2) hG dc12_rests_119 (by decide) ?_
        refine s_iload hG dc12_rests_120 rfl ?_
        refine s_imul hG dc12_rests_122 ?_
        refine s_iadd hG dc12_rests_123 ?_
        refine s_iald hG dc12_rests_124 (fun v124 => ?_)
        refine s_aload_n hG dc12_rests_125 rfl ?_
        refine s_getR hG kFc12_94 rfl dc12_rests_126 (fun v126 => ?_)
        refine s_bipush (v := 12) hG dc12_rests_129 (by decide) ?_
        refine s_iload hG dc12_rests_131 rfl ?_
        refine s_imul hG dc12_rests_133 ?_
        refine s_iconst (v := 2) hG dc12_rests_134 (by decide) ?_
        refine s_iload hG dc12_rests_135 rfl ?_
        refine s_imul hG dc12_rests_137 ?_
        refine s_iadd hG dc12_rests_138 ?_
        refine s_iald hG dc12_rests_139 (fun v139 => ?_)
        refine s_icmp_gt hG 184 dc12_rests_140 (by decide) ?_ ?_
        · exact s_lv (lc rfl (lc rfl (lc rfl (lc rfl (lc rfl (lc rfl ln)))))) (pc12_rests_184 hG hK75 hK85 ih _ _ _ _ _ _ _)
        · refine s_aload_n hG dc12_rests_143 rfl ?_
          refine s_getR hG kFc12_94 rfl dc12_rests_144 (fun v144 => ?_)
          refine s_bipush (v := 12) hG dc12_rests_147 (by decide) ?_
          refine s_iload hG dc12_rests_149 rfl ?_
          refine s_imul hG dc12_rests_151 ?_
          refine s_iconst (v := 2) hG dc12_rests_152 (by decide) ?_
          refine s_iload hG dc12_rests_153 rfl ?_
          refine s_imul hG dc12_rests_155 ?_
          refine s_iadd hG dc12_rests_156 ?_
          refine s_iconst (v := 1) hG dc12_rests_157 (by decide) ?_
          refine s_iadd hG dc12_rests_158 ?_
          refine s_iald hG dc12_rests_159 (fun v159 => ?_)
          refine s_aload_n hG dc12_rests_160 rfl ?_
          refine s_getR hG kFc12_94 rfl dc12_rests_161 (fun v161 => ?_)
          refine s_bipush (v := 12) hG dc12_rests_164 (by decide) ?_
          refine s_iload hG dc12_rests_166 rfl ?_
          refine s_imul hG dc12_rests_168 ?_
          refine s_iconst (v := 2) hG dc12_rests_169 (by decide) ?_
          refine s_iload hG dc12_rests_170 rfl ?_
          refine s_imul hG dc12_rests_172 ?_
          refine s_iadd hG dc12_rests_173 ?_
          refine s_iconst (v := 1) hG dc12_rests_174 (by decide) ?_
          refine s_iadd hG dc12_rests_175 ?_
          refine s_iald hG dc12_rests_176 (fun v176 => ?_)
          refine s_icmp_gt hG 184 dc12_rests_177 (by decide) ?_ ?_
          · exact s_lv (lc rfl (lc rfl (lc rfl (lc rfl (lc rfl (lc rfl ln)))))) (pc12_rests_184 hG hK75 hK85 ih _ _ _ _ _ _ _)
          · refine s_iconst (v := 1) hG dc12_rests_180 (by decide) ?_
            refine s_goto hG 185 dc12_rests_181 (by decide) ?_
            exact s_lv (lc rfl (lc rfl (lc rfl (lc rfl (lc rfl (lc rfl ln)))))) (pc12_rests_185 hG hK75 hK85 ih _ _ _ _ _ _ _ _)
set_option maxRecDepth 20000 in
set_option maxHeartbeats 2000000 in
theorem pc12_rests_85 {Ω : Om} {Γ : Ga} {N : Nat} (hG : Good Ω Γ tc12_rests 143 0 0) {K75 : Option Nat → Int32 → Int32 → Int32 → Me → Option (Int32 × Me)} (hK75 : ∀ (l0 : Option Nat) (l4 : Int32) (l5 : Int32) (l6 : Int32) (σ : Me), Sim Ω Γ 0 0 ιI 10 75 [(0, vR l0), (4, vI l4), (5, vI l5), (6, vI l6)] [] σ 0 0 (K75 l0 l4 l5 l6 σ))  : ∀ (n : Nat) (l0 : Option Nat) (l4 : Int32) (l5 : Int32) (l6 : Int32) (l7 : Int32) (σ : Me), Sim Ω Γ 0 0 ιI 10 85 [(0, vR l0), (4, vI l4), (5, vI l5), (6, vI l6), (7, vI l7)] [] σ 0 0 (fc12_rests_85 N K75 n l0 l4 l5 l6 l7 σ) := by
  intro n
  induction n with
  | zero => intros; exact s_none
  | succ n ih =>
    intro l0 l4 l5 l6 l7 σ
    unfold fc12_rests_85
    refine s_iload hG dc12_rests_85 rfl ?_
    refine s_bipush (v := 6) hG dc12_rests_87 (by decide) ?_
    refine s_icmp_ge hG 226 dc12_rests_89 (by decide) ?_ ?_
    · refine s_iinc (v := 1) hG dc12_rests_226 rfl (by decide) (by decide) ?_
      refine s_goto hG 75 dc12_rests_229 (by decide) ?_
      exact s_lv (lc rfl (lc rfl (lc rfl (lc rfl ln)))) (hK75 _ _ _ _ _)
    · refine s_iconst (v := 1) hG dc12_rests_92 (by decide) ?_
      refine s_istore hG dc12_rests_93 (by decide) ?_
      refine s_iconst (v := 0) hG dc12_rests_95 (by decide) ?_
      refine s_istore hG dc12_rests_96 (by decide) ?_
      exact s_lv (lc rfl (lc rfl (lc rfl (lc rfl (lc rfl (lc rfl (lc rfl ln))))))) (pc12_rests_98 hG hK75 ih _ _ _ _ _ _ _ _ _)
set_option maxRecDepth 20000 in
set_option maxHeartbeats 2000000 in
theorem pc12_rests_75 {Ω : Om} {Γ : Ga} {N : Nat} (hG : Good Ω Γ tc12_rests 143 0 0)  : ∀ (n : Nat) (l0 : Option Nat) (l4 : Int32) (l5 : Int32) (l6 : Int32) (σ : Me), Sim Ω Γ 0 0 ιI 10 75 [(0, vR l0), (4, vI l4), (5, vI l5), (6, vI l6)] [] σ 0 0 (fc12_rests_75 N n l0 l4 l5 l6 σ) := by
  intro n
  induction n with
  | zero => intros; exact s_none
  | succ n ih =>
    intro l0 l4 l5 l6 σ
    unfold fc12_rests_75
    refine s_iload hG dc12_rests_75 rfl ?_
    refine s_bipush (v := 6) hG dc12_rests_77 (by decide) ?_
    refine s_icmp_ge hG 232 dc12_rests_79 (by decide) ?_ ?_
    · refine s_iload hG dc12_rests_232 rfl ?_
      refine s_iconst (v := -1) hG dc12_rests_234 (by decide) ?_
      refine s_icmp_ne hG 243 dc12_rests_235 (by decide) ?_ ?_
      · refine s_iconst (v := -1) hG dc12_rests_243 (by decide) ?_
        exact s_iret hG dc12_rests_244 rfl (Nat.le_of_ble_eq_true rfl) (Nat.le_of_ble_eq_true rfl)
      · refine s_iload hG dc12_rests_238 rfl ?_
        refine s_goto hG 244 dc12_rests_240 (by decide) ?_
        exact s_iret hG dc12_rests_244 rfl (Nat.le_of_ble_eq_true rfl) (Nat.le_of_ble_eq_true rfl)
    · refine s_iconst (v := 0) hG dc12_rests_82 (by decide) ?_
      refine s_istore hG dc12_rests_83 (by decide) ?_
      exact s_lv (lc rfl (lc rfl (lc rfl (lc rfl (lc rfl ln))))) (pc12_rests_85 hG ih _ _ _ _ _ _ _)
set_option maxRecDepth 20000 in
set_option maxHeartbeats 2000000 in
theorem pc12_rests_26 {Ω : Om} {Γ : Ga} {N : Nat} (hG : Good Ω Γ tc12_rests 143 0 0)  : ∀ (n : Nat) (l0 : Option Nat) (l1 : Int32) (l2 : Int32) (l3 : Int32) (l4 : Int32) (l5 : Int32) (σ : Me), Sim Ω Γ 0 0 ιI 10 26 [(0, vR l0), (1, vI l1), (2, vI l2), (3, vI l3), (4, vI l4), (5, vI l5)] [] σ 0 0 (fc12_rests_26 N n l0 l1 l2 l3 l4 l5 σ) := by
  intro n
  induction n with
  | zero => intros; exact s_none
  | succ n ih =>
    intro l0 l1 l2 l3 l4 l5 σ
    unfold fc12_rests_26
    refine s_iload hG dc12_rests_26 rfl ?_
    refine s_bipush (v := 72) hG dc12_rests_28 (by decide) ?_
    refine s_icmp_ge hG 69 dc12_rests_30 (by decide) ?_ ?_
    · refine s_iconst (v := 0) hG dc12_rests_69 (by decide) ?_
      refine s_istore hG dc12_rests_70 (by decide) ?_
      refine s_iconst (v := 0) hG dc12_rests_72 (by decide) ?_
      refine s_istore hG dc12_rests_73 (by decide) ?_
      exact s_lv (lc rfl (lc rfl (lc rfl (lc rfl ln)))) (pc12_rests_75 hG _ _ _ _ _ _)
    · refine s_aload_n hG dc12_rests_33 rfl ?_
      refine s_getR hG kFc12_94 rfl dc12_rests_34 (fun v34 => ?_)
      refine s_iload hG dc12_rests_37 rfl ?_
      refine s_aload_n hG dc12_rests_39 rfl ?_
      refine s_iload_n hG dc12_rests_40 rfl ?_
      refine s_iload_n hG dc12_rests_41 rfl ?_
      refine s_iload_n hG dc12_rests_42 rfl ?_
      refine s_iload hG dc12_rests_43 rfl ?_
      refine s_bipush (v := 12) hG dc12_rests_45 (by decide) ?_
      refine s_idiv hG dc12_rests_47 (fun v47 => ?_)
      refine s_iload hG dc12_rests_48 rfl ?_
      refine s_iconst (v := 2) hG dc12_rests_50 (by decide) ?_
      refine s_idiv hG dc12_rests_51 (fun v51 => ?_)
      refine s_bipush (v := 6) hG dc12_rests_52 (by decide) ?_
      refine s_irem hG dc12_rests_54 (fun v54 => ?_)
      refine s_iload hG dc12_rests_55 rfl ?_
      refine s_iconst (v := 2) hG dc12_rests_57 (by decide) ?_
      refine s_irem hG dc12_rests_58 (fun v58 => ?_)
      refine s_callVi hG kMc12_444 (fun a => corc12_gameOf N a _ _ _ _ _ _ _) ⟨by decide, rfl⟩ rfl (by first | decide | omega) dc12_rests_59 rfl rfl (Nat.le_of_ble_eq_true rfl) ⟨Nat.le_of_ble_eq_true rfl, Nat.le_of_ble_eq_true rfl⟩ (fun p59 => ?_)
      refine s_iast hG dc12_rests_62 (fun σ62 => ?_)
      refine s_iinc (v := 1) hG dc12_rests_63 rfl (by decide) (by decide) ?_
      refine s_goto hG 26 dc12_rests_66 (by decide) ?_
      exact s_lv (lc rfl (lc rfl (lc rfl (lc rfl (lc rfl (lc rfl ln)))))) (ih _ _ _ _ _ _ _)
set_option maxRecDepth 20000 in
set_option maxHeartbeats 2000000 in
theorem corc12_rests {Ω : Om} (N : Nat) (a0 : Nat) (x1 : Int32) (x2 : Int32) (x3 : Int32) (x4 : Int32) (σ : Me) : Cor Ω tc12_rests 143 0 0 [vR (some a0), vI x1, vI x2, vI x3, vI x4] σ ιI (fc12_rests N a0 x1 x2 x3 x4 σ) := by
  refine Cor.of (by decide +kernel) (Nat.le_of_ble_eq_true rfl) (fun Γ hG => ?_)
  unfold fc12_rests
  show Sim Ω Γ 0 0 ιI 10 0 [(0, vR (some a0)), (1, vI x1), (2, vI x2), (3, vI x3), (4, vI x4)] [] σ 0 0 _
  refine s_aload_n hG dc12_rests_0 rfl ?_
  refine s_iconst (v := 0) hG dc12_rests_1 (by decide) ?_
  refine s_putI (fin := false) hG kFc12_100 rfl (fun h => by cases h) rfl (fun _ => rfl) (fun _ => rfl) dc12_rests_2 (fun σ2 => ?_)
  refine s_aload_n hG dc12_rests_5 rfl ?_
  refine s_iload_n hG dc12_rests_6 rfl ?_
  refine s_iload_n hG dc12_rests_7 rfl ?_
  refine s_iload_n hG dc12_rests_8 rfl ?_
  refine s_callVi hG kMc12_438 (fun a => corc12_isGame N a _ _ _ _) ⟨by decide, rfl⟩ rfl (by first | decide | omega) dc12_rests_9 rfl rfl (Nat.le_of_ble_eq_true rfl) ⟨Nat.le_of_ble_eq_true rfl, Nat.le_of_ble_eq_true rfl⟩ (fun p9 => ?_)
  refine s_if_eq hG 21 dc12_rests_12 (by decide) ?_ ?_
  · refine s_iconst (v := -1) hG dc12_rests_21 (by decide) ?_
    exact s_iret hG dc12_rests_22 rfl (Nat.le_of_ble_eq_true rfl) (Nat.le_of_ble_eq_true rfl)
  · refine s_iload hG dc12_rests_15 rfl ?_
    refine s_iconst (v := -1) hG dc12_rests_17 (by decide) ?_
    refine s_icmp_ge hG 23 dc12_rests_18 (by decide) ?_ ?_
    · refine s_iconst (v := 0) hG dc12_rests_23 (by decide) ?_
      refine s_istore hG dc12_rests_24 (by decide) ?_
      exact s_lv (lc rfl (lc rfl (lc rfl (lc rfl (lc rfl (lc rfl ln)))))) (pc12_rests_26 hG _ _ _ _ _ _ _ _)
    · refine s_iconst (v := -1) hG dc12_rests_21 (by decide) ?_
      exact s_iret hG dc12_rests_22 rfl (Nat.le_of_ble_eq_true rfl) (Nat.le_of_ble_eq_true rfl)
def fc12_odds_40 (N : Nat) : Nat → Option Nat → Int32 → Int32 → Int32 → Int32 → Int32 → Me → Option (Int32 × Me)
  | 0, _, _, _, _, _, _, _ => none
  | n + 1, l0, l1, l2, l3, l4, l5, σ =>
    if l3 < l5 then
      (dvI (l4 * (1000000 : Int32)) ((l3 - l2) + (1 : Int32))).bind fun v82 =>
      some (v82, σ)
    else
      (dr σ l0 (.inl 12)).bind fun a =>
      (fc12_tries N a l5 σ).bind fun p49 =>
      (qI p49.2 12 36 l0).bind fun v55 =>
      (fc12_odds_40 N n) l0 l1 l2 l3 (l4 + ((v55 >>> (l1 &&& 31)) &&& (1 : Int32))) (l5 + (1 : Int32)) p49.2
def fc12_odds (N : Nat) (a0 : Nat) (x1 : Int32) (x2 : Int32) (x3 : Int32) (σ : Me) : Option (Int32 × Me) :=
  (pI σ 12 0 (some a0) (0 : Int32)).bind fun σ2 =>
  (dr σ2 (some a0) (.inl 12)).bind fun a =>
  (fc12_isField N a x1 σ2).bind fun p7 =>
  if p7.1 = 0 then
    some ((-1 : Int32), p7.2)
  else
    (fc12_isRain N x2 p7.2).bind fun p14 =>
    if p14.1 = 0 then
      some ((-1 : Int32), p14.2)
    else
      (fc12_isRain N x3 p14.2).bind fun p21 =>
      if p21.1 = 0 then
        some ((-1 : Int32), p21.2)
      else
        if x2 ≤ x3 then
          fc12_odds_40 N N (some a0) x1 x2 x3 (0 : Int32) x2 p21.2
        else
          some ((-1 : Int32), p21.2)
set_option maxRecDepth 20000 in
set_option maxHeartbeats 2000000 in
theorem pc12_odds_40 {Ω : Om} {Γ : Ga} {N : Nat} (hG : Good Ω Γ tc12_odds 143 0 0)  : ∀ (n : Nat) (l0 : Option Nat) (l1 : Int32) (l2 : Int32) (l3 : Int32) (l4 : Int32) (l5 : Int32) (σ : Me), Sim Ω Γ 0 0 ιI 6 40 [(0, vR l0), (1, vI l1), (2, vI l2), (3, vI l3), (4, vI l4), (5, vI l5)] [] σ 0 0 (fc12_odds_40 N n l0 l1 l2 l3 l4 l5 σ) := by
  intro n
  induction n with
  | zero => intros; exact s_none
  | succ n ih =>
    intro l0 l1 l2 l3 l4 l5 σ
    unfold fc12_odds_40
    refine s_iload hG dc12_odds_40 rfl ?_
    refine s_iload_n hG dc12_odds_42 rfl ?_
    refine s_icmp_gt hG 71 dc12_odds_43 (by decide) ?_ ?_
    · refine s_iload hG dc12_odds_71 rfl ?_
      refine s_ldcw hG dc12_odds_73 kIc12_448 ?_
      refine s_imul hG dc12_odds_76 ?_
      refine s_iload_n hG dc12_odds_77 rfl ?_
      refine s_iload_n hG dc12_odds_78 rfl ?_
      refine s_isub hG dc12_odds_79 ?_
      refine s_iconst (v := 1) hG dc12_odds_80 (by decide) ?_
      refine s_iadd hG dc12_odds_81 ?_
      refine s_idiv hG dc12_odds_82 (fun v82 => ?_)
      exact s_iret hG dc12_odds_83 rfl (Nat.le_of_ble_eq_true rfl) (Nat.le_of_ble_eq_true rfl)
    · refine s_aload_n hG dc12_odds_46 rfl ?_
      refine s_iload hG dc12_odds_47 rfl ?_
      refine s_callVv hG kMc12_425 (fun a => corc12_tries N a _ _) ⟨by decide, rfl⟩ rfl (by first | decide | omega) dc12_odds_49 rfl rfl (Nat.le_of_ble_eq_true rfl) ⟨Nat.le_of_ble_eq_true rfl, Nat.le_of_ble_eq_true rfl⟩ (fun p49 => ?_)
      refine s_iload hG dc12_odds_52 rfl ?_
      refine s_aload_n hG dc12_odds_54 rfl ?_
      refine s_getI hG kFc12_339 rfl dc12_odds_55 (fun v55 => ?_)
      refine s_iload_n hG dc12_odds_58 rfl ?_
      refine s_ishr hG dc12_odds_59 ?_
      refine s_iconst (v := 1) hG dc12_odds_60 (by decide) ?_
      refine s_iand hG dc12_odds_61 ?_
      refine s_iadd hG dc12_odds_62 ?_
      refine s_istore hG dc12_odds_63 (by decide) ?_
      refine s_iinc (v := 1) hG dc12_odds_65 rfl (by decide) (by decide) ?_
      refine s_goto hG 40 dc12_odds_68 (by decide) ?_
      exact s_lv (lc rfl (lc rfl (lc rfl (lc rfl (lc rfl (lc rfl ln)))))) (ih _ _ _ _ _ _ _)
set_option maxRecDepth 20000 in
set_option maxHeartbeats 2000000 in
theorem corc12_odds {Ω : Om} (N : Nat) (a0 : Nat) (x1 : Int32) (x2 : Int32) (x3 : Int32) (σ : Me) : Cor Ω tc12_odds 143 0 0 [vR (some a0), vI x1, vI x2, vI x3] σ ιI (fc12_odds N a0 x1 x2 x3 σ) := by
  refine Cor.of (by decide +kernel) (Nat.le_of_ble_eq_true rfl) (fun Γ hG => ?_)
  unfold fc12_odds
  show Sim Ω Γ 0 0 ιI 6 0 [(0, vR (some a0)), (1, vI x1), (2, vI x2), (3, vI x3)] [] σ 0 0 _
  refine s_aload_n hG dc12_odds_0 rfl ?_
  refine s_iconst (v := 0) hG dc12_odds_1 (by decide) ?_
  refine s_putI (fin := false) hG kFc12_100 rfl (fun h => by cases h) rfl (fun _ => rfl) (fun _ => rfl) dc12_odds_2 (fun σ2 => ?_)
  refine s_aload_n hG dc12_odds_5 rfl ?_
  refine s_iload_n hG dc12_odds_6 rfl ?_
  refine s_callVi hG kMc12_353 (fun a => corc12_isField N a _ _) ⟨by decide, rfl⟩ rfl (by first | decide | omega) dc12_odds_7 rfl rfl (Nat.le_of_ble_eq_true rfl) ⟨Nat.le_of_ble_eq_true rfl, Nat.le_of_ble_eq_true rfl⟩ (fun p7 => ?_)
  refine s_if_eq hG 32 dc12_odds_10 (by decide) ?_ ?_
  · refine s_iconst (v := -1) hG dc12_odds_32 (by decide) ?_
    exact s_iret hG dc12_odds_33 rfl (Nat.le_of_ble_eq_true rfl) (Nat.le_of_ble_eq_true rfl)
  · refine s_iload_n hG dc12_odds_13 rfl ?_
    refine s_callSi hG kMc12_363 (corc12_isRain N _ _) rfl (by first | decide | omega) dc12_odds_14 rfl rfl (Nat.le_of_ble_eq_true rfl) ⟨Nat.le_of_ble_eq_true rfl, Nat.le_of_ble_eq_true rfl⟩ (fun p14 => ?_)
    refine s_if_eq hG 32 dc12_odds_17 (by decide) ?_ ?_
    · refine s_iconst (v := -1) hG dc12_odds_32 (by decide) ?_
      exact s_iret hG dc12_odds_33 rfl (Nat.le_of_ble_eq_true rfl) (Nat.le_of_ble_eq_true rfl)
    · refine s_iload_n hG dc12_odds_20 rfl ?_
      refine s_callSi hG kMc12_363 (corc12_isRain N _ _) rfl (by first | decide | omega) dc12_odds_21 rfl rfl (Nat.le_of_ble_eq_true rfl) ⟨Nat.le_of_ble_eq_true rfl, Nat.le_of_ble_eq_true rfl⟩ (fun p21 => ?_)
      refine s_if_eq hG 32 dc12_odds_24 (by decide) ?_ ?_
      · refine s_iconst (v := -1) hG dc12_odds_32 (by decide) ?_
        exact s_iret hG dc12_odds_33 rfl (Nat.le_of_ble_eq_true rfl) (Nat.le_of_ble_eq_true rfl)
      · refine s_iload_n hG dc12_odds_27 rfl ?_
        refine s_iload_n hG dc12_odds_28 rfl ?_
        refine s_icmp_le hG 34 dc12_odds_29 (by decide) ?_ ?_
        · refine s_iconst (v := 0) hG dc12_odds_34 (by decide) ?_
          refine s_istore hG dc12_odds_35 (by decide) ?_
          refine s_iload_n hG dc12_odds_37 rfl ?_
          refine s_istore hG dc12_odds_38 (by decide) ?_
          exact s_lv (lc rfl (lc rfl (lc rfl (lc rfl (lc rfl (lc rfl ln)))))) (pc12_odds_40 hG _ _ _ _ _ _ _ _)
        · refine s_iconst (v := -1) hG dc12_odds_32 (by decide) ?_
          exact s_iret hG dc12_odds_33 rfl (Nat.le_of_ble_eq_true rfl) (Nat.le_of_ble_eq_true rfl)
def fc12_laysTurn_13 (N : Nat) : Nat → Option Nat → Int32 → Me → Option (Unit × Me)
  | 0, _, _, _ => none
  | n + 1, l0, l1, σ =>
    (qI σ 12 24 l0).bind fun v15 =>
    if v15 ≤ l1 then
      some ((), σ)
    else
      (qR σ 12 29 l0).bind fun v22 =>
      (qR σ 12 28 l0).bind fun v32 =>
      (ldI σ v32 (((4 : Int32) * l1) + (0 : Int32))).bind fun v40 =>
      (dr σ l0 (.inl 12)).bind fun a =>
      (fc12_withInterest N a v40 σ).bind fun p41 =>
      (stI p41.2 v22 (((4 : Int32) * l1) + (0 : Int32)) p41.1).bind fun σ44 =>
      (fc12_laysTurn_13 N n) l0 (l1 + (1 : Int32)) σ44
def fc12_laysTurn (N : Nat) (a0 : Nat) (σ : Me) : Option (Unit × Me) :=
  (qR σ 12 28 (some a0)).bind fun v1 =>
  (qR σ 12 29 (some a0)).bind fun v5 =>
  (fc12_copy N v1 v5 σ).bind fun p8 =>
  fc12_laysTurn_13 N N (some a0) (0 : Int32) p8.2
set_option maxRecDepth 20000 in
set_option maxHeartbeats 2000000 in
theorem pc12_laysTurn_13 {Ω : Om} {Γ : Ga} {N : Nat} (hG : Good Ω Γ tc12_laysTurn 3 0 0)  : ∀ (n : Nat) (l0 : Option Nat) (l1 : Int32) (σ : Me), Sim Ω Γ 0 0 ιV 2 13 [(0, vR l0), (1, vI l1)] [] σ 0 0 (fc12_laysTurn_13 N n l0 l1 σ) := by
  intro n
  induction n with
  | zero => intros; exact s_none
  | succ n ih =>
    intro l0 l1 σ
    unfold fc12_laysTurn_13
    refine s_iload_n hG dc12_laysTurn_13 rfl ?_
    refine s_aload_n hG dc12_laysTurn_14 rfl ?_
    refine s_getI hG kFc12_290 rfl dc12_laysTurn_15 (fun v15 => ?_)
    refine s_icmp_ge hG 51 dc12_laysTurn_18 (by decide) ?_ ?_
    · exact s_vret hG dc12_laysTurn_51 rfl (Nat.le_of_ble_eq_true rfl) (Nat.le_of_ble_eq_true rfl)
    · refine s_aload_n hG dc12_laysTurn_21 rfl ?_
      refine s_getR hG kFc12_58 rfl dc12_laysTurn_22 (fun v22 => ?_)
      refine s_iconst (v := 4) hG dc12_laysTurn_25 (by decide) ?_
      refine s_iload_n hG dc12_laysTurn_26 rfl ?_
      refine s_imul hG dc12_laysTurn_27 ?_
      refine s_iconst (v := 0) hG dc12_laysTurn_28 (by decide) ?_
      refine s_iadd hG dc12_laysTurn_29 ?_
      refine s_aload_n hG dc12_laysTurn_30 rfl ?_
      refine s_aload_n hG dc12_laysTurn_31 rfl ?_
      refine s_getR hG kFc12_55 rfl dc12_laysTurn_32 (fun v32 => ?_)
      refine s_iconst (v := 4) hG dc12_laysTurn_35 (by decide) ?_
      refine s_iload_n hG dc12_laysTurn_36 rfl ?_
      refine s_imul hG dc12_laysTurn_37 ?_
      refine s_iconst (v := 0) hG dc12_laysTurn_38 (by decide) ?_
      refine s_iadd hG dc12_laysTurn_39 ?_
      refine s_iald hG dc12_laysTurn_40 (fun v40 => ?_)
      refine s_callVi hG kMc12_328 (fun a => corc12_withInterest N a _ _) ⟨by decide, rfl⟩ rfl (by first | decide | omega) dc12_laysTurn_41 rfl rfl (Nat.le_of_ble_eq_true rfl) ⟨Nat.le_of_ble_eq_true rfl, Nat.le_of_ble_eq_true rfl⟩ (fun p41 => ?_)
      refine s_iast hG dc12_laysTurn_44 (fun σ44 => ?_)
      refine s_iinc (v := 1) hG dc12_laysTurn_45 rfl (by decide) (by decide) ?_
      refine s_goto hG 13 dc12_laysTurn_48 (by decide) ?_
      exact s_lv (lc rfl (lc rfl ln)) (ih _ _ _)
set_option maxRecDepth 20000 in
set_option maxHeartbeats 2000000 in
theorem corc12_laysTurn {Ω : Om} (N : Nat) (a0 : Nat) (σ : Me) : Cor Ω tc12_laysTurn 3 0 0 [vR (some a0)] σ ιV (fc12_laysTurn N a0 σ) := by
  refine Cor.of (by decide +kernel) (Nat.le_of_ble_eq_true rfl) (fun Γ hG => ?_)
  unfold fc12_laysTurn
  show Sim Ω Γ 0 0 ιV 2 0 [(0, vR (some a0))] [] σ 0 0 _
  refine s_aload_n hG dc12_laysTurn_0 rfl ?_
  refine s_getR hG kFc12_55 rfl dc12_laysTurn_1 (fun v1 => ?_)
  refine s_aload_n hG dc12_laysTurn_4 rfl ?_
  refine s_getR hG kFc12_58 rfl dc12_laysTurn_5 (fun v5 => ?_)
  refine s_callSv hG kMc12_345 (corc12_copy N _ _ _) rfl (by first | decide | omega) dc12_laysTurn_8 rfl rfl (Nat.le_of_ble_eq_true rfl) ⟨Nat.le_of_ble_eq_true rfl, Nat.le_of_ble_eq_true rfl⟩ (fun p8 => ?_)
  refine s_iconst (v := 0) hG dc12_laysTurn_11 (by decide) ?_
  refine s_istore_n hG dc12_laysTurn_12 (by decide) ?_
  exact s_lv (lc rfl (lc rfl ln)) (pc12_laysTurn_13 hG _ _ _ _)
def fc12_turn_27 (N : Nat) : Nat → Option Nat → Int32 → Int32 → Int32 → Me → Option (Int32 × Me)
  | 0, _, _, _, _, _ => none
  | n + 1, l0, l1, l2, l3, σ =>
    if l1 ≤ l3 then
      (qR σ 12 29 l0).bind fun v54 =>
      (dr σ l0 (.inl 12)).bind fun a =>
      (fc12_nextIn N a v54 l2 σ).bind fun p58 =>
      some (p58.1, p58.2)
    else
      (qR σ 12 29 l0).bind fun v36 =>
      (dr σ l0 (.inl 12)).bind fun a =>
      (fc12_nextIn N a v36 l2 σ).bind fun p40 =>
      (fc12_turn_27 N n) l0 l1 (l2 ||| ((1 : Int32) <<< (p40.1 &&& 31))) (l3 + (1 : Int32)) p40.2
def fc12_turn (N : Nat) (a0 : Nat) (x1 : Int32) (σ : Me) : Option (Int32 × Me) :=
  (pI σ 12 0 (some a0) (0 : Int32)).bind fun σ2 =>
  if x1 < 0 then
    some ((-1 : Int32), σ2)
  else
    (qI σ2 12 24 (some a0)).bind fun v11 =>
    if x1 < v11 then
      (dr σ2 (some a0) (.inl 12)).bind fun a =>
      (fc12_laysTurn N a σ2).bind fun p20 =>
      fc12_turn_27 N N (some a0) x1 (0 : Int32) (0 : Int32) p20.2
    else
      some ((-1 : Int32), σ2)
set_option maxRecDepth 20000 in
set_option maxHeartbeats 2000000 in
theorem pc12_turn_27 {Ω : Om} {Γ : Ga} {N : Nat} (hG : Good Ω Γ tc12_turn 4 0 0)  : ∀ (n : Nat) (l0 : Option Nat) (l1 : Int32) (l2 : Int32) (l3 : Int32) (σ : Me), Sim Ω Γ 0 0 ιI 4 27 [(0, vR l0), (1, vI l1), (2, vI l2), (3, vI l3)] [] σ 0 0 (fc12_turn_27 N n l0 l1 l2 l3 σ) := by
  intro n
  induction n with
  | zero => intros; exact s_none
  | succ n ih =>
    intro l0 l1 l2 l3 σ
    unfold fc12_turn_27
    refine s_iload_n hG dc12_turn_27 rfl ?_
    refine s_iload_n hG dc12_turn_28 rfl ?_
    refine s_icmp_ge hG 52 dc12_turn_29 (by decide) ?_ ?_
    · refine s_aload_n hG dc12_turn_52 rfl ?_
      refine s_aload_n hG dc12_turn_53 rfl ?_
      refine s_getR hG kFc12_58 rfl dc12_turn_54 (fun v54 => ?_)
      refine s_iload_n hG dc12_turn_57 rfl ?_
      refine s_callVi hG kMc12_331 (fun a => corc12_nextIn N a _ _ _) ⟨by decide, rfl⟩ rfl (by first | decide | omega) dc12_turn_58 rfl rfl (Nat.le_of_ble_eq_true rfl) ⟨Nat.le_of_ble_eq_true rfl, Nat.le_of_ble_eq_true rfl⟩ (fun p58 => ?_)
      exact s_iret hG dc12_turn_61 rfl (Nat.le_of_ble_eq_true rfl) (Nat.le_of_ble_eq_true rfl)
    · refine s_iload_n hG dc12_turn_32 rfl ?_
      refine s_iconst (v := 1) hG dc12_turn_33 (by decide) ?_
      refine s_aload_n hG dc12_turn_34 rfl ?_
      refine s_aload_n hG dc12_turn_35 rfl ?_
      refine s_getR hG kFc12_58 rfl dc12_turn_36 (fun v36 => ?_)
      refine s_iload_n hG dc12_turn_39 rfl ?_
      refine s_callVi hG kMc12_331 (fun a => corc12_nextIn N a _ _ _) ⟨by decide, rfl⟩ rfl (by first | decide | omega) dc12_turn_40 rfl rfl (Nat.le_of_ble_eq_true rfl) ⟨Nat.le_of_ble_eq_true rfl, Nat.le_of_ble_eq_true rfl⟩ (fun p40 => ?_)
      refine s_ishl hG dc12_turn_43 ?_
      refine s_ior hG dc12_turn_44 ?_
      refine s_istore_n hG dc12_turn_45 (by decide) ?_
      refine s_iinc (v := 1) hG dc12_turn_46 rfl (by decide) (by decide) ?_
      refine s_goto hG 27 dc12_turn_49 (by decide) ?_
      exact s_lv (lc rfl (lc rfl (lc rfl (lc rfl ln)))) (ih _ _ _ _ _)
set_option maxRecDepth 20000 in
set_option maxHeartbeats 2000000 in
theorem corc12_turn {Ω : Om} (N : Nat) (a0 : Nat) (x1 : Int32) (σ : Me) : Cor Ω tc12_turn 4 0 0 [vR (some a0), vI x1] σ ιI (fc12_turn N a0 x1 σ) := by
  refine Cor.of (by decide +kernel) (Nat.le_of_ble_eq_true rfl) (fun Γ hG => ?_)
  unfold fc12_turn
  show Sim Ω Γ 0 0 ιI 4 0 [(0, vR (some a0)), (1, vI x1)] [] σ 0 0 _
  refine s_aload_n hG dc12_turn_0 rfl ?_
  refine s_iconst (v := 0) hG dc12_turn_1 (by decide) ?_
  refine s_putI (fin := false) hG kFc12_100 rfl (fun h => by cases h) rfl (fun _ => rfl) (fun _ => rfl) dc12_turn_2 (fun σ2 => ?_)
  refine s_iload_n hG dc12_turn_5 rfl ?_
  refine s_if_lt hG 17 dc12_turn_6 (by decide) ?_ ?_
  · refine s_iconst (v := -1) hG dc12_turn_17 (by decide) ?_
    exact s_iret hG dc12_turn_18 rfl (Nat.le_of_ble_eq_true rfl) (Nat.le_of_ble_eq_true rfl)
  · refine s_iload_n hG dc12_turn_9 rfl ?_
    refine s_aload_n hG dc12_turn_10 rfl ?_
    refine s_getI hG kFc12_290 rfl dc12_turn_11 (fun v11 => ?_)
    refine s_icmp_lt hG 19 dc12_turn_14 (by decide) ?_ ?_
    · refine s_aload_n hG dc12_turn_19 rfl ?_
      refine s_callVv hG kMc12_449 (fun a => corc12_laysTurn N a _) ⟨by decide, rfl⟩ rfl (by first | decide | omega) dc12_turn_20 rfl rfl (Nat.le_of_ble_eq_true rfl) ⟨Nat.le_of_ble_eq_true rfl, Nat.le_of_ble_eq_true rfl⟩ (fun p20 => ?_)
      refine s_iconst (v := 0) hG dc12_turn_23 (by decide) ?_
      refine s_istore_n hG dc12_turn_24 (by decide) ?_
      refine s_iconst (v := 0) hG dc12_turn_25 (by decide) ?_
      refine s_istore_n hG dc12_turn_26 (by decide) ?_
      exact s_lv (lc rfl (lc rfl (lc rfl (lc rfl ln)))) (pc12_turn_27 hG _ _ _ _ _ _)
    · refine s_iconst (v := -1) hG dc12_turn_17 (by decide) ?_
      exact s_iret hG dc12_turn_18 rfl (Nat.le_of_ble_eq_true rfl) (Nat.le_of_ble_eq_true rfl)
def fc12_forgiven_21 (N : Nat) : Nat → Option Nat → Int32 → Int32 → Me → Option (Int32 × Me)
  | 0, _, _, _, _ => none
  | n + 1, l0, l1, l2, σ =>
    (qR σ 12 28 l0).bind fun v23 =>
    (ldI σ v23 (((4 : Int32) * l1) + (0 : Int32))).bind fun v31 =>
    if v31 < l2 then
      some ((-1 : Int32), σ)
    else
      (qR σ 12 29 l0).bind fun v36 =>
      (qR σ 12 28 l0).bind fun v46 =>
      (ldI σ v46 (((4 : Int32) * l1) + (0 : Int32))).bind fun v54 =>
      (dr σ l0 (.inl 12)).bind fun a =>
      (fc12_withInterest N a (v54 - l2) σ).bind fun p57 =>
      (stI p57.2 v36 (((4 : Int32) * l1) + (0 : Int32)) p57.1).bind fun σ60 =>
      (qR σ60 12 29 l0).bind fun v63 =>
      (dr σ60 l0 (.inl 12)).bind fun a =>
      (fc12_nextIn N a v63 (0 : Int32) σ60).bind fun p67 =>
      if p67.1 = l1 then
        (fc12_forgiven_21 N n) l0 l1 (l2 + (1 : Int32)) p67.2
      else
        some (l2, p67.2)
def fc12_forgiven (N : Nat) (a0 : Nat) (x1 : Int32) (σ : Me) : Option (Int32 × Me) :=
  (pI σ 12 0 (some a0) (0 : Int32)).bind fun σ2 =>
  (dr σ2 (some a0) (.inl 12)).bind fun a =>
  (fc12_isField N a x1 σ2).bind fun p7 =>
  if p7.1 = 0 then
    some ((-1 : Int32), p7.2)
  else
    (dr p7.2 (some a0) (.inl 12)).bind fun a =>
    (fc12_laysTurn N a p7.2).bind fun p16 =>
    fc12_forgiven_21 N N (some a0) x1 (0 : Int32) p16.2
set_option maxRecDepth 20000 in
set_option maxHeartbeats 2000000 in
theorem pc12_forgiven_21 {Ω : Om} {Γ : Ga} {N : Nat} (hG : Good Ω Γ tc12_forgiven 4 0 0)  : ∀ (n : Nat) (l0 : Option Nat) (l1 : Int32) (l2 : Int32) (σ : Me), Sim Ω Γ 0 0 ιI 3 21 [(0, vR l0), (1, vI l1), (2, vI l2)] [] σ 0 0 (fc12_forgiven_21 N n l0 l1 l2 σ) := by
  intro n
  induction n with
  | zero => intros; exact s_none
  | succ n ih =>
    intro l0 l1 l2 σ
    unfold fc12_forgiven_21
    refine s_iload_n hG dc12_forgiven_21 rfl ?_
    refine s_aload_n hG dc12_forgiven_22 rfl ?_
    refine s_getR hG kFc12_55 rfl dc12_forgiven_23 (fun v23 => ?_)
    refine s_iconst (v := 4) hG dc12_forgiven_26 (by decide) ?_
    refine s_iload_n hG dc12_forgiven_27 rfl ?_
    refine s_imul hG dc12_forgiven_28 ?_
    refine s_iconst (v := 0) hG dc12_forgiven_29 (by decide) ?_
    refine s_iadd hG dc12_forgiven_30 ?_
    refine s_iald hG dc12_forgiven_31 (fun v31 => ?_)
    refine s_icmp_gt hG 82 dc12_forgiven_32 (by decide) ?_ ?_
    · refine s_iconst (v := -1) hG dc12_forgiven_82 (by decide) ?_
      exact s_iret hG dc12_forgiven_83 rfl (Nat.le_of_ble_eq_true rfl) (Nat.le_of_ble_eq_true rfl)
    · refine s_aload_n hG dc12_forgiven_35 rfl ?_
      refine s_getR hG kFc12_58 rfl dc12_forgiven_36 (fun v36 => ?_)
      refine s_iconst (v := 4) hG dc12_forgiven_39 (by decide) ?_
      refine s_iload_n hG dc12_forgiven_40 rfl ?_
      refine s_imul hG dc12_forgiven_41 ?_
      refine s_iconst (v := 0) hG dc12_forgiven_42 (by decide) ?_
      refine s_iadd hG dc12_forgiven_43 ?_
      refine s_aload_n hG dc12_forgiven_44 rfl ?_
      refine s_aload_n hG dc12_forgiven_45 rfl ?_
      refine s_getR hG kFc12_55 rfl dc12_forgiven_46 (fun v46 => ?_)
      refine s_iconst (v := 4) hG dc12_forgiven_49 (by decide) ?_
      refine s_iload_n hG dc12_forgiven_50 rfl ?_
      refine s_imul hG dc12_forgiven_51 ?_
      refine s_iconst (v := 0) hG dc12_forgiven_52 (by decide) ?_
      refine s_iadd hG dc12_forgiven_53 ?_
      refine s_iald hG dc12_forgiven_54 (fun v54 => ?_)
      refine s_iload_n hG dc12_forgiven_55 rfl ?_
      refine s_isub hG dc12_forgiven_56 ?_
      refine s_callVi hG kMc12_328 (fun a => corc12_withInterest N a _ _) ⟨by decide, rfl⟩ rfl (by first | decide | omega) dc12_forgiven_57 rfl rfl (Nat.le_of_ble_eq_true rfl) ⟨Nat.le_of_ble_eq_true rfl, Nat.le_of_ble_eq_true rfl⟩ (fun p57 => ?_)
      refine s_iast hG dc12_forgiven_60 (fun σ60 => ?_)
      refine s_aload_n hG dc12_forgiven_61 rfl ?_
      refine s_aload_n hG dc12_forgiven_62 rfl ?_
      refine s_getR hG kFc12_58 rfl dc12_forgiven_63 (fun v63 => ?_)
      refine s_iconst (v := 0) hG dc12_forgiven_66 (by decide) ?_
      refine s_callVi hG kMc12_331 (fun a => corc12_nextIn N a _ _ _) ⟨by decide, rfl⟩ rfl (by first | decide | omega) dc12_forgiven_67 rfl rfl (Nat.le_of_ble_eq_true rfl) ⟨Nat.le_of_ble_eq_true rfl, Nat.le_of_ble_eq_true rfl⟩ (fun p67 => ?_)
      refine s_iload_n hG dc12_forgiven_70 rfl ?_
      refine s_icmp_eq hG 76 dc12_forgiven_71 (by decide) ?_ ?_
      · refine s_iinc (v := 1) hG dc12_forgiven_76 rfl (by decide) (by decide) ?_
        refine s_goto hG 21 dc12_forgiven_79 (by decide) ?_
        exact s_lv (lc rfl (lc rfl (lc rfl ln))) (ih _ _ _ _)
      · refine s_iload_n hG dc12_forgiven_74 rfl ?_
        exact s_iret hG dc12_forgiven_75 rfl (Nat.le_of_ble_eq_true rfl) (Nat.le_of_ble_eq_true rfl)
set_option maxRecDepth 20000 in
set_option maxHeartbeats 2000000 in
theorem corc12_forgiven {Ω : Om} (N : Nat) (a0 : Nat) (x1 : Int32) (σ : Me) : Cor Ω tc12_forgiven 4 0 0 [vR (some a0), vI x1] σ ιI (fc12_forgiven N a0 x1 σ) := by
  refine Cor.of (by decide +kernel) (Nat.le_of_ble_eq_true rfl) (fun Γ hG => ?_)
  unfold fc12_forgiven
  show Sim Ω Γ 0 0 ιI 3 0 [(0, vR (some a0)), (1, vI x1)] [] σ 0 0 _
  refine s_aload_n hG dc12_forgiven_0 rfl ?_
  refine s_iconst (v := 0) hG dc12_forgiven_1 (by decide) ?_
  refine s_putI (fin := false) hG kFc12_100 rfl (fun h => by cases h) rfl (fun _ => rfl) (fun _ => rfl) dc12_forgiven_2 (fun σ2 => ?_)
  refine s_aload_n hG dc12_forgiven_5 rfl ?_
  refine s_iload_n hG dc12_forgiven_6 rfl ?_
  refine s_callVi hG kMc12_353 (fun a => corc12_isField N a _ _) ⟨by decide, rfl⟩ rfl (by first | decide | omega) dc12_forgiven_7 rfl rfl (Nat.le_of_ble_eq_true rfl) ⟨Nat.le_of_ble_eq_true rfl, Nat.le_of_ble_eq_true rfl⟩ (fun p7 => ?_)
  refine s_if_ne hG 15 dc12_forgiven_10 (by decide) ?_ ?_
  · refine s_aload_n hG dc12_forgiven_15 rfl ?_
    refine s_callVv hG kMc12_449 (fun a => corc12_laysTurn N a _) ⟨by decide, rfl⟩ rfl (by first | decide | omega) dc12_forgiven_16 rfl rfl (Nat.le_of_ble_eq_true rfl) ⟨Nat.le_of_ble_eq_true rfl, Nat.le_of_ble_eq_true rfl⟩ (fun p16 => ?_)
    refine s_iconst (v := 0) hG dc12_forgiven_19 (by decide) ?_
    refine s_istore_n hG dc12_forgiven_20 (by decide) ?_
    exact s_lv (lc rfl (lc rfl (lc rfl ln))) (pc12_forgiven_21 hG _ _ _ _ _)
  · refine s_iconst (v := -1) hG dc12_forgiven_13 (by decide) ?_
    exact s_iret hG dc12_forgiven_14 rfl (Nat.le_of_ble_eq_true rfl) (Nat.le_of_ble_eq_true rfl)
def fc12_ahead_48 (N : Nat) : Nat → Option Nat → Int32 → Int32 → Int32 → Int32 → Me → Option (Int32 × Me)
  | 0, _, _, _, _, _, _ => none
  | n + 1, l0, l1, l2, l3, l4, σ =>
    if l2 ≤ l4 then
      (qR σ 12 29 l0).bind fun v70 =>
      (ldI σ v70 (((4 : Int32) * l1) + (0 : Int32))).bind fun v78 =>
      some (v78, σ)
    else
      (qR σ 12 29 l0).bind fun v56 =>
      (dr σ l0 (.inl 12)).bind fun a =>
      (fc12_goYear N a v56 l3 σ).bind fun p60 =>
      (fc12_ahead_48 N n) l0 l1 l2 l3 (l4 + (1 : Int32)) p60.2
def fc12_ahead (N : Nat) (a0 : Nat) (x1 : Int32) (x2 : Int32) (x3 : Int32) (σ : Me) : Option (Int32 × Me) :=
  (pI σ 12 0 (some a0) (0 : Int32)).bind fun σ2 =>
  (dr σ2 (some a0) (.inl 12)).bind fun a =>
  (fc12_isField N a x1 σ2).bind fun p7 =>
  if p7.1 = 0 then
    some ((-1 : Int32), p7.2)
  else
    (fc12_isIn N (Int32.toInt64 x2) (0 : Int64) (30 : Int64) p7.2).bind fun p19 =>
    if p19.1 = 0 then
      some ((-1 : Int32), p19.2)
    else
      (fc12_isRain N x3 p19.2).bind fun p26 =>
      if p26.1 = 0 then
        some ((-1 : Int32), p26.2)
      else
        (qR p26.2 12 28 (some a0)).bind fun v35 =>
        (qR p26.2 12 29 (some a0)).bind fun v39 =>
        (fc12_copy N v35 v39 p26.2).bind fun p42 =>
        fc12_ahead_48 N N (some a0) x1 x2 x3 (0 : Int32) p42.2
set_option maxRecDepth 20000 in
set_option maxHeartbeats 2000000 in
theorem pc12_ahead_48 {Ω : Om} {Γ : Ga} {N : Nat} (hG : Good Ω Γ tc12_ahead 142 0 0)  : ∀ (n : Nat) (l0 : Option Nat) (l1 : Int32) (l2 : Int32) (l3 : Int32) (l4 : Int32) (σ : Me), Sim Ω Γ 0 0 ιI 5 48 [(0, vR l0), (1, vI l1), (2, vI l2), (3, vI l3), (4, vI l4)] [] σ 0 0 (fc12_ahead_48 N n l0 l1 l2 l3 l4 σ) := by
  intro n
  induction n with
  | zero => intros; exact s_none
  | succ n ih =>
    intro l0 l1 l2 l3 l4 σ
    unfold fc12_ahead_48
    refine s_iload hG dc12_ahead_48 rfl ?_
    refine s_iload_n hG dc12_ahead_50 rfl ?_
    refine s_icmp_ge hG 69 dc12_ahead_51 (by decide) ?_ ?_
    · refine s_aload_n hG dc12_ahead_69 rfl ?_
      refine s_getR hG kFc12_58 rfl dc12_ahead_70 (fun v70 => ?_)
      refine s_iconst (v := 4) hG dc12_ahead_73 (by decide) ?_
      refine s_iload_n hG dc12_ahead_74 rfl ?_
      refine s_imul hG dc12_ahead_75 ?_
      refine s_iconst (v := 0) hG dc12_ahead_76 (by decide) ?_
      refine s_iadd hG dc12_ahead_77 ?_
      refine s_iald hG dc12_ahead_78 (fun v78 => ?_)
      exact s_iret hG dc12_ahead_79 rfl (Nat.le_of_ble_eq_true rfl) (Nat.le_of_ble_eq_true rfl)
    · refine s_aload_n hG dc12_ahead_54 rfl ?_
      refine s_aload_n hG dc12_ahead_55 rfl ?_
      refine s_getR hG kFc12_58 rfl dc12_ahead_56 (fun v56 => ?_)
      refine s_iload_n hG dc12_ahead_59 rfl ?_
      refine s_callVv hG kMc12_349 (fun a => corc12_goYear N a _ _ _) ⟨by decide, rfl⟩ rfl (by first | decide | omega) dc12_ahead_60 rfl rfl (Nat.le_of_ble_eq_true rfl) ⟨Nat.le_of_ble_eq_true rfl, Nat.le_of_ble_eq_true rfl⟩ (fun p60 => ?_)
      refine s_iinc (v := 1) hG dc12_ahead_63 rfl (by decide) (by decide) ?_
      refine s_goto hG 48 dc12_ahead_66 (by decide) ?_
      exact s_lv (lc rfl (lc rfl (lc rfl (lc rfl (lc rfl ln))))) (ih _ _ _ _ _ _)
set_option maxRecDepth 20000 in
set_option maxHeartbeats 2000000 in
theorem corc12_ahead {Ω : Om} (N : Nat) (a0 : Nat) (x1 : Int32) (x2 : Int32) (x3 : Int32) (σ : Me) : Cor Ω tc12_ahead 142 0 0 [vR (some a0), vI x1, vI x2, vI x3] σ ιI (fc12_ahead N a0 x1 x2 x3 σ) := by
  refine Cor.of (by decide +kernel) (Nat.le_of_ble_eq_true rfl) (fun Γ hG => ?_)
  unfold fc12_ahead
  show Sim Ω Γ 0 0 ιI 5 0 [(0, vR (some a0)), (1, vI x1), (2, vI x2), (3, vI x3)] [] σ 0 0 _
  refine s_aload_n hG dc12_ahead_0 rfl ?_
  refine s_iconst (v := 0) hG dc12_ahead_1 (by decide) ?_
  refine s_putI (fin := false) hG kFc12_100 rfl (fun h => by cases h) rfl (fun _ => rfl) (fun _ => rfl) dc12_ahead_2 (fun σ2 => ?_)
  refine s_aload_n hG dc12_ahead_5 rfl ?_
  refine s_iload_n hG dc12_ahead_6 rfl ?_
  refine s_callVi hG kMc12_353 (fun a => corc12_isField N a _ _) ⟨by decide, rfl⟩ rfl (by first | decide | omega) dc12_ahead_7 rfl rfl (Nat.le_of_ble_eq_true rfl) ⟨Nat.le_of_ble_eq_true rfl, Nat.le_of_ble_eq_true rfl⟩ (fun p7 => ?_)
  refine s_if_eq hG 32 dc12_ahead_10 (by decide) ?_ ?_
  · refine s_iconst (v := -1) hG dc12_ahead_32 (by decide) ?_
    exact s_iret hG dc12_ahead_33 rfl (Nat.le_of_ble_eq_true rfl) (Nat.le_of_ble_eq_true rfl)
  · refine s_iload_n hG dc12_ahead_13 rfl ?_
    refine s_i2l hG dc12_ahead_14 ?_
    refine s_lconst (v := 0) hG dc12_ahead_15 (by decide) ?_
    refine s_ldc2 hG dc12_ahead_16 kJc12_400 ?_
    refine s_callSi hG kMc12_221 (corc12_isIn N _ _ _ _) rfl (by first | decide | omega) dc12_ahead_19 rfl rfl (Nat.le_of_ble_eq_true rfl) ⟨Nat.le_of_ble_eq_true rfl, Nat.le_of_ble_eq_true rfl⟩ (fun p19 => ?_)
    refine s_if_eq hG 32 dc12_ahead_22 (by decide) ?_ ?_
    · refine s_iconst (v := -1) hG dc12_ahead_32 (by decide) ?_
      exact s_iret hG dc12_ahead_33 rfl (Nat.le_of_ble_eq_true rfl) (Nat.le_of_ble_eq_true rfl)
    · refine s_iload_n hG dc12_ahead_25 rfl ?_
      refine s_callSi hG kMc12_363 (corc12_isRain N _ _) rfl (by first | decide | omega) dc12_ahead_26 rfl rfl (Nat.le_of_ble_eq_true rfl) ⟨Nat.le_of_ble_eq_true rfl, Nat.le_of_ble_eq_true rfl⟩ (fun p26 => ?_)
      refine s_if_ne hG 34 dc12_ahead_29 (by decide) ?_ ?_
      · refine s_aload_n hG dc12_ahead_34 rfl ?_
        refine s_getR hG kFc12_55 rfl dc12_ahead_35 (fun v35 => ?_)
        refine s_aload_n hG dc12_ahead_38 rfl ?_
        refine s_getR hG kFc12_58 rfl dc12_ahead_39 (fun v39 => ?_)
        refine s_callSv hG kMc12_345 (corc12_copy N _ _ _) rfl (by first | decide | omega) dc12_ahead_42 rfl rfl (Nat.le_of_ble_eq_true rfl) ⟨Nat.le_of_ble_eq_true rfl, Nat.le_of_ble_eq_true rfl⟩ (fun p42 => ?_)
        refine s_iconst (v := 0) hG dc12_ahead_45 (by decide) ?_
        refine s_istore hG dc12_ahead_46 (by decide) ?_
        exact s_lv (lc rfl (lc rfl (lc rfl (lc rfl (lc rfl ln))))) (pc12_ahead_48 hG _ _ _ _ _ _ _)
      · refine s_iconst (v := -1) hG dc12_ahead_32 (by decide) ?_
        exact s_iret hG dc12_ahead_33 rfl (Nat.le_of_ble_eq_true rfl) (Nat.le_of_ble_eq_true rfl)
def fc12_even_35 (N : Nat) : Nat → Option Nat → Int32 → Int32 → Int32 → Me → Option (Int32 × Me)
  | 0, _, _, _, _, _ => none
  | n + 1, l0, l1, l2, l3, σ =>
    if (60 : Int32) < l3 then
      some ((-1 : Int32), σ)
    else
      (qR σ 12 29 l0).bind fun v42 =>
      (ldI σ v42 (((4 : Int32) * l1) + (0 : Int32))).bind fun v50 =>
      if v50 = 0 then
        some (l3, σ)
      else
        (qR σ 12 29 l0).bind fun v58 =>
        (dr σ l0 (.inl 12)).bind fun a =>
        (fc12_goYear N a v58 l2 σ).bind fun p62 =>
        (fc12_even_35 N n) l0 l1 l2 (l3 + (1 : Int32)) p62.2
def fc12_even (N : Nat) (a0 : Nat) (x1 : Int32) (x2 : Int32) (σ : Me) : Option (Int32 × Me) :=
  (pI σ 12 0 (some a0) (0 : Int32)).bind fun σ2 =>
  (dr σ2 (some a0) (.inl 12)).bind fun a =>
  (fc12_isField N a x1 σ2).bind fun p7 =>
  if p7.1 = 0 then
    some ((-1 : Int32), p7.2)
  else
    (fc12_isRain N x2 p7.2).bind fun p14 =>
    if p14.1 = 0 then
      some ((-1 : Int32), p14.2)
    else
      (qR p14.2 12 28 (some a0)).bind fun v23 =>
      (qR p14.2 12 29 (some a0)).bind fun v27 =>
      (fc12_copy N v23 v27 p14.2).bind fun p30 =>
      fc12_even_35 N N (some a0) x1 x2 (0 : Int32) p30.2
set_option maxRecDepth 20000 in
set_option maxHeartbeats 2000000 in
theorem pc12_even_35 {Ω : Om} {Γ : Ga} {N : Nat} (hG : Good Ω Γ tc12_even 142 0 0)  : ∀ (n : Nat) (l0 : Option Nat) (l1 : Int32) (l2 : Int32) (l3 : Int32) (σ : Me), Sim Ω Γ 0 0 ιI 4 35 [(0, vR l0), (1, vI l1), (2, vI l2), (3, vI l3)] [] σ 0 0 (fc12_even_35 N n l0 l1 l2 l3 σ) := by
  intro n
  induction n with
  | zero => intros; exact s_none
  | succ n ih =>
    intro l0 l1 l2 l3 σ
    unfold fc12_even_35
    refine s_iload_n hG dc12_even_35 rfl ?_
    refine s_bipush (v := 60) hG dc12_even_36 (by decide) ?_
    refine s_icmp_gt hG 71 dc12_even_38 (by decide) ?_ ?_
    · refine s_iconst (v := -1) hG dc12_even_71 (by decide) ?_
      exact s_iret hG dc12_even_72 rfl (Nat.le_of_ble_eq_true rfl) (Nat.le_of_ble_eq_true rfl)
    · refine s_aload_n hG dc12_even_41 rfl ?_
      refine s_getR hG kFc12_58 rfl dc12_even_42 (fun v42 => ?_)
      refine s_iconst (v := 4) hG dc12_even_45 (by decide) ?_
      refine s_iload_n hG dc12_even_46 rfl ?_
      refine s_imul hG dc12_even_47 ?_
      refine s_iconst (v := 0) hG dc12_even_48 (by decide) ?_
      refine s_iadd hG dc12_even_49 ?_
      refine s_iald hG dc12_even_50 (fun v50 => ?_)
      refine s_if_ne hG 56 dc12_even_51 (by decide) ?_ ?_
      · refine s_aload_n hG dc12_even_56 rfl ?_
        refine s_aload_n hG dc12_even_57 rfl ?_
        refine s_getR hG kFc12_58 rfl dc12_even_58 (fun v58 => ?_)
        refine s_iload_n hG dc12_even_61 rfl ?_
        refine s_callVv hG kMc12_349 (fun a => corc12_goYear N a _ _ _) ⟨by decide, rfl⟩ rfl (by first | decide | omega) dc12_even_62 rfl rfl (Nat.le_of_ble_eq_true rfl) ⟨Nat.le_of_ble_eq_true rfl, Nat.le_of_ble_eq_true rfl⟩ (fun p62 => ?_)
        refine s_iinc (v := 1) hG dc12_even_65 rfl (by decide) (by decide) ?_
        refine s_goto hG 35 dc12_even_68 (by decide) ?_
        exact s_lv (lc rfl (lc rfl (lc rfl (lc rfl ln)))) (ih _ _ _ _ _)
      · refine s_iload_n hG dc12_even_54 rfl ?_
        exact s_iret hG dc12_even_55 rfl (Nat.le_of_ble_eq_true rfl) (Nat.le_of_ble_eq_true rfl)
set_option maxRecDepth 20000 in
set_option maxHeartbeats 2000000 in
theorem corc12_even {Ω : Om} (N : Nat) (a0 : Nat) (x1 : Int32) (x2 : Int32) (σ : Me) : Cor Ω tc12_even 142 0 0 [vR (some a0), vI x1, vI x2] σ ιI (fc12_even N a0 x1 x2 σ) := by
  refine Cor.of (by decide +kernel) (Nat.le_of_ble_eq_true rfl) (fun Γ hG => ?_)
  unfold fc12_even
  show Sim Ω Γ 0 0 ιI 4 0 [(0, vR (some a0)), (1, vI x1), (2, vI x2)] [] σ 0 0 _
  refine s_aload_n hG dc12_even_0 rfl ?_
  refine s_iconst (v := 0) hG dc12_even_1 (by decide) ?_
  refine s_putI (fin := false) hG kFc12_100 rfl (fun h => by cases h) rfl (fun _ => rfl) (fun _ => rfl) dc12_even_2 (fun σ2 => ?_)
  refine s_aload_n hG dc12_even_5 rfl ?_
  refine s_iload_n hG dc12_even_6 rfl ?_
  refine s_callVi hG kMc12_353 (fun a => corc12_isField N a _ _) ⟨by decide, rfl⟩ rfl (by first | decide | omega) dc12_even_7 rfl rfl (Nat.le_of_ble_eq_true rfl) ⟨Nat.le_of_ble_eq_true rfl, Nat.le_of_ble_eq_true rfl⟩ (fun p7 => ?_)
  refine s_if_eq hG 20 dc12_even_10 (by decide) ?_ ?_
  · refine s_iconst (v := -1) hG dc12_even_20 (by decide) ?_
    exact s_iret hG dc12_even_21 rfl (Nat.le_of_ble_eq_true rfl) (Nat.le_of_ble_eq_true rfl)
  · refine s_iload_n hG dc12_even_13 rfl ?_
    refine s_callSi hG kMc12_363 (corc12_isRain N _ _) rfl (by first | decide | omega) dc12_even_14 rfl rfl (Nat.le_of_ble_eq_true rfl) ⟨Nat.le_of_ble_eq_true rfl, Nat.le_of_ble_eq_true rfl⟩ (fun p14 => ?_)
    refine s_if_ne hG 22 dc12_even_17 (by decide) ?_ ?_
    · refine s_aload_n hG dc12_even_22 rfl ?_
      refine s_getR hG kFc12_55 rfl dc12_even_23 (fun v23 => ?_)
      refine s_aload_n hG dc12_even_26 rfl ?_
      refine s_getR hG kFc12_58 rfl dc12_even_27 (fun v27 => ?_)
      refine s_callSv hG kMc12_345 (corc12_copy N _ _ _) rfl (by first | decide | omega) dc12_even_30 rfl rfl (Nat.le_of_ble_eq_true rfl) ⟨Nat.le_of_ble_eq_true rfl, Nat.le_of_ble_eq_true rfl⟩ (fun p30 => ?_)
      refine s_iconst (v := 0) hG dc12_even_33 (by decide) ?_
      refine s_istore_n hG dc12_even_34 (by decide) ?_
      exact s_lv (lc rfl (lc rfl (lc rfl (lc rfl ln)))) (pc12_even_35 hG _ _ _ _ _ _)
    · refine s_iconst (v := -1) hG dc12_even_20 (by decide) ?_
      exact s_iret hG dc12_even_21 rfl (Nat.le_of_ble_eq_true rfl) (Nat.le_of_ble_eq_true rfl)
def fc12_together_34 (N : Nat) : Nat → Option Nat → Int32 → Int32 → Me → Option (Int32 × Me)
  | 0, _, _, _, _ => none
  | n + 1, l0, l1, l2, σ =>
    if (60 : Int32) < l2 then
      some ((-1 : Int32), σ)
    else
      (qR σ 12 29 l0).bind fun v42 =>
      (dr σ l0 (.inl 12)).bind fun a =>
      (fc12_goYear N a v42 l1 σ).bind fun p46 =>
      (qI p46.2 12 36 l0).bind fun v50 =>
      (fIt_bitCount N v50 p46.2).bind fun p53 =>
      if p53.1 ≤ (1 : Int32) then
        (fc12_together_34 N n) l0 l1 (l2 + (1 : Int32)) p53.2
      else
        some (l2, p53.2)
def fc12_together (N : Nat) (a0 : Nat) (x1 : Int32) (σ : Me) : Option (Int32 × Me) :=
  (pI σ 12 0 (some a0) (0 : Int32)).bind fun σ2 =>
  (qI σ2 12 24 (some a0)).bind fun v6 =>
  if v6 = 0 then
    some ((-1 : Int32), σ2)
  else
    (fc12_isRain N x1 σ2).bind fun p13 =>
    if p13.1 = 0 then
      some ((-1 : Int32), p13.2)
    else
      (qR p13.2 12 28 (some a0)).bind fun v22 =>
      (qR p13.2 12 29 (some a0)).bind fun v26 =>
      (fc12_copy N v22 v26 p13.2).bind fun p29 =>
      fc12_together_34 N N (some a0) x1 (1 : Int32) p29.2
set_option maxRecDepth 20000 in
set_option maxHeartbeats 2000000 in
theorem pc12_together_34 {Ω : Om} {Γ : Ga} {N : Nat} (hG : Good Ω Γ tc12_together 142 0 0)  : ∀ (n : Nat) (l0 : Option Nat) (l1 : Int32) (l2 : Int32) (σ : Me), Sim Ω Γ 0 0 ιI 3 34 [(0, vR l0), (1, vI l1), (2, vI l2)] [] σ 0 0 (fc12_together_34 N n l0 l1 l2 σ) := by
  intro n
  induction n with
  | zero => intros; exact s_none
  | succ n ih =>
    intro l0 l1 l2 σ
    unfold fc12_together_34
    refine s_iload_n hG dc12_together_34 rfl ?_
    refine s_bipush (v := 60) hG dc12_together_35 (by decide) ?_
    refine s_icmp_gt hG 68 dc12_together_37 (by decide) ?_ ?_
    · refine s_iconst (v := -1) hG dc12_together_68 (by decide) ?_
      exact s_iret hG dc12_together_69 rfl (Nat.le_of_ble_eq_true rfl) (Nat.le_of_ble_eq_true rfl)
    · refine s_aload_n hG dc12_together_40 rfl ?_
      refine s_aload_n hG dc12_together_41 rfl ?_
      refine s_getR hG kFc12_58 rfl dc12_together_42 (fun v42 => ?_)
      refine s_iload_n hG dc12_together_45 rfl ?_
      refine s_callVv hG kMc12_349 (fun a => corc12_goYear N a _ _ _) ⟨by decide, rfl⟩ rfl (by first | decide | omega) dc12_together_46 rfl rfl (Nat.le_of_ble_eq_true rfl) ⟨Nat.le_of_ble_eq_true rfl, Nat.le_of_ble_eq_true rfl⟩ (fun p46 => ?_)
      refine s_aload_n hG dc12_together_49 rfl ?_
      refine s_getI hG kFc12_339 rfl dc12_together_50 (fun v50 => ?_)
      refine s_callSi hG kMc12_452 (corIt_bitCount N _ _) rfl (by first | decide | omega) dc12_together_53 rfl rfl (Nat.le_of_ble_eq_true rfl) ⟨Nat.le_of_ble_eq_true rfl, Nat.le_of_ble_eq_true rfl⟩ (fun p53 => ?_)
      refine s_iconst (v := 1) hG dc12_together_56 (by decide) ?_
      refine s_icmp_le hG 62 dc12_together_57 (by decide) ?_ ?_
      · refine s_iinc (v := 1) hG dc12_together_62 rfl (by decide) (by decide) ?_
        refine s_goto hG 34 dc12_together_65 (by decide) ?_
        exact s_lv (lc rfl (lc rfl (lc rfl ln))) (ih _ _ _ _)
      · refine s_iload_n hG dc12_together_60 rfl ?_
        exact s_iret hG dc12_together_61 rfl (Nat.le_of_ble_eq_true rfl) (Nat.le_of_ble_eq_true rfl)
set_option maxRecDepth 20000 in
set_option maxHeartbeats 2000000 in
theorem corc12_together {Ω : Om} (N : Nat) (a0 : Nat) (x1 : Int32) (σ : Me) : Cor Ω tc12_together 142 0 0 [vR (some a0), vI x1] σ ιI (fc12_together N a0 x1 σ) := by
  refine Cor.of (by decide +kernel) (Nat.le_of_ble_eq_true rfl) (fun Γ hG => ?_)
  unfold fc12_together
  show Sim Ω Γ 0 0 ιI 3 0 [(0, vR (some a0)), (1, vI x1)] [] σ 0 0 _
  refine s_aload_n hG dc12_together_0 rfl ?_
  refine s_iconst (v := 0) hG dc12_together_1 (by decide) ?_
  refine s_putI (fin := false) hG kFc12_100 rfl (fun h => by cases h) rfl (fun _ => rfl) (fun _ => rfl) dc12_together_2 (fun σ2 => ?_)
  refine s_aload_n hG dc12_together_5 rfl ?_
  refine s_getI hG kFc12_290 rfl dc12_together_6 (fun v6 => ?_)
  refine s_if_eq hG 19 dc12_together_9 (by decide) ?_ ?_
  · refine s_iconst (v := -1) hG dc12_together_19 (by decide) ?_
    exact s_iret hG dc12_together_20 rfl (Nat.le_of_ble_eq_true rfl) (Nat.le_of_ble_eq_true rfl)
  · refine s_iload_n hG dc12_together_12 rfl ?_
    refine s_callSi hG kMc12_363 (corc12_isRain N _ _) rfl (by first | decide | omega) dc12_together_13 rfl rfl (Nat.le_of_ble_eq_true rfl) ⟨Nat.le_of_ble_eq_true rfl, Nat.le_of_ble_eq_true rfl⟩ (fun p13 => ?_)
    refine s_if_ne hG 21 dc12_together_16 (by decide) ?_ ?_
    · refine s_aload_n hG dc12_together_21 rfl ?_
      refine s_getR hG kFc12_55 rfl dc12_together_22 (fun v22 => ?_)
      refine s_aload_n hG dc12_together_25 rfl ?_
      refine s_getR hG kFc12_58 rfl dc12_together_26 (fun v26 => ?_)
      refine s_callSv hG kMc12_345 (corc12_copy N _ _ _) rfl (by first | decide | omega) dc12_together_29 rfl rfl (Nat.le_of_ble_eq_true rfl) ⟨Nat.le_of_ble_eq_true rfl, Nat.le_of_ble_eq_true rfl⟩ (fun p29 => ?_)
      refine s_iconst (v := 1) hG dc12_together_32 (by decide) ?_
      refine s_istore_n hG dc12_together_33 (by decide) ?_
      exact s_lv (lc rfl (lc rfl (lc rfl ln))) (pc12_together_34 hG _ _ _ _ _)
    · refine s_iconst (v := -1) hG dc12_together_19 (by decide) ?_
      exact s_iret hG dc12_together_20 rfl (Nat.le_of_ble_eq_true rfl) (Nat.le_of_ble_eq_true rfl)
