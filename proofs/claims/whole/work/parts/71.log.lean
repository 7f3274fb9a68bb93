/-! the reference's log, and its year as a whole -/
abbrev Lg : Type := Nat → Nat × Nat × Nat
def updG (lg : Lg) (c : Nat) (v : Nat × Nat × Nat) : Lg := fun y => if y = c then v else lg y
def LgM (σ : Me) (w c : Nat) (lg : Lg) : Prop := mi σ w 26 = nI (min 60 c) ∧ ∀ j, j < min 60 c → mi σ w (27 + 3 * j) = nI (lg (c - min 60 c + j)).1 ∧ mi σ w (27 + 3 * j + 1) = nI (lg (c - min 60 c + j)).2.1 ∧ mi σ w (27 + 3 * j + 2) = nI (lg (c - min 60 c + j)).2.2
theorem LgM.fr {S : Nat → Nat → Bool} {σ σ' : Me} {w c : Nat} {lg : Lg} (h : LgM σ w c lg) (k : Fr S σ σ') (h1 : ∀ j, 26 ≤ j → S w j = false) : LgM σ' w c lg :=
  ⟨by rw [k.i (h1 _ (by omega))]; exact h.1, fun j hj => by rw [k.i (h1 _ (by omega)), k.i (h1 _ (by omega)), k.i (h1 _ (by omega))]; exact h.2 j hj⟩
def shS (w : Nat) : Nat → Nat → Bool := fun a j => a == w && decide (26 < j)
def gySe (N : Nat) (l0 l1 : Option Nat) (l2 : Int32) (σ : Me) : Option (Unit × Me) :=
  (ldI σ l1 (26 : Int32)).bind fun v388 =>
  (stI σ l1 (26 : Int32) (v388 - (1 : Int32))).bind fun σ391 =>
  fc12_goYear_392 N l0 l1 l2 σ391
theorem y178 : (178 : Int32) = nI 178 := rfl
theorem shift_m {N : Nat} {σ : Me} (h : Sh σ) {w : Nat} (hw : w = 71 ∨ w = 72) (rain : Int32) (hN : 200 ≤ N) : ∃ σ' : Me, fc12_goYear_354 N N (some 60) (some w) rain (nI 1) σ = gySe N (some 60) (some w) rain σ' ∧ Fr (shS w) σ σ' ∧ ∀ i, i < 177 → mi σ' w (27 + i) = mi σ w (27 + i + 3) := by
  have hw2 : 71 ≤ w ∧ w ≤ 72 := by omega
  have kw := h.w hw
  refine lp (fun fu k τ => fc12_goYear_354 N fu (some 60) (some w) rain (nI k) τ) (fun k τ => Fr (shS w) σ τ ∧ 1 ≤ k ∧ ∀ i, i < 180 → mi τ w (27 + i) = if i + 1 < k then mi σ w (27 + i + 3) else mi σ w (27 + i)) (fun o => ∃ σ' : Me, o = gySe N (some 60) (some w) rain σ' ∧ Fr (shS w) σ σ' ∧ ∀ i, i < 177 → mi σ' w (27 + i) = mi σ w (27 + i + 3)) 178 ?_ ?_ 177 1 N σ (by omega) (by omega) ⟨Fr.rf _ _, by omega, fun i hi => by rw [if_neg (by omega)]⟩
  · intro fu τ hI
    refine ⟨τ, ?_, hI.1, fun i hi => by rw [hI.2.2 i (by omega), if_pos (by omega)]⟩
    have c : 177 < 178 := by decide
    simp (disch := omega) only [fc12_goYear_354, gySe, y177, nI_ltI, c, if_true, if_false, ↓reduceIte, and_true, true_and, and_false, false_and, not_true_eq_false, not_false_eq_true, and_self]
  · intro fu k τ hk hI
    obtain ⟨i1, i2, i3⟩ := hI
    refine .inl ?_
    have c : ¬ 177 < k := by omega
    have e : mi τ w (26 + k + 3) = mi σ w (26 + k + 3) := by
      have := i3 (k + 2) (by omega)
      rw [if_neg (by omega)] at this
      rw [show 26 + k + 3 = 27 + (k + 2) by omega]
      exact this
    have kt : ∀ j, j < 207 → arr τ .int (some w) (nI j) = some w := fun j hj => by rw [Fr_a i1]; exact kw j hj
    refine ⟨setI τ w (26 + k) (mi σ w (26 + k + 3)), ?_, fr_I (by simp [shS] <;> omega) i1, by omega, fun i hi => ?_⟩
    · simp (disch := omega) only [fc12_goYear_354, qI, qL, qR, pI, pL, pR, ldI_lo, ldB_lo, ldZ, ldL, stI, stB, stZ, stL, dr_setI, dr_setL, dr_setR, arr_setI, arr_setL, arr_setR, aLn_setI, aLn_setL, aLn_setR, mr_setI, mr_setL, mi_setL, mi_setR, ml_setI, ml_setR, mi_eq, mi_ne, ml_eq, ml_ne, mr_eq, mr_ne, bnd, nI_clamp, kt, y177, y26, y3, nI_ltI, nI_add, c, if_true, if_false, ↓reduceIte, and_true, true_and, and_false, false_and, not_true_eq_false, not_false_eq_true, and_self, e, nI_1]
    · by_cases e2 : i + 1 = k
      · rw [show 26 + k = 27 + i by omega, mi_eq, if_pos (by omega)]
      · rw [mi_ne _ _ (by omega), i3 i hi]
        by_cases c2 : i + 1 < k
        · rw [if_pos c2, if_pos (by omega)]
        · rw [if_neg c2, if_neg (by omega)]
theorem gy392_m {N : Nat} {σ : Me} (h : Sh σ) {w : Nat} (hw : w = 71 ∨ w = 72) {m d b rain : Nat} (hm : m < 60) (e26 : mi σ w 26 = nI m) (ed : mi σ 60 36 = nI d) (eb : mi σ 60 37 = nI b) : fc12_goYear_392 N (some 60) (some w) (nI rain) σ = some ((), setI (setI (setI (setI σ w (27 + 3 * m) (nI rain)) w (27 + 3 * m + 1) (nI d)) w (27 + 3 * m + 2) (nI b)) w 26 (nI (m + 1))) := by
  have hw2 : 71 ≤ w ∧ w ≤ 72 := by omega
  have kw := h.w hw
  simp (disch := omega) only [fc12_goYear_392, qI, qL, qR, pI, pL, pR, ldI_lo, ldB_lo, ldZ, ldL, stI, stB, stZ, stL, dr_setI, dr_setL, dr_setR, arr_setI, arr_setL, arr_setR, aLn_setI, aLn_setL, aLn_setR, mr_setI, mr_setL, mi_setL, mi_setR, ml_setI, ml_setR, mi_eq, mi_ne, ml_eq, ml_ne, mr_eq, mr_ne, bnd, nI_clamp, PM h, kw, y26, y27, y3, y1, y2, nI_add, pk_mul, nI_leI, nI_ltI, nI_eq, dv_n, rm_n, min_N, max_N, e26, ed, eb]
theorem LgM.put {σ : Me} {w c m : Nat} {lg : Lg} {v : Nat × Nat × Nat} (hm : m = min 60 (c + 1) - 1) (hlo : ∀ j, j < m → mi σ w (27 + 3 * j) = nI (lg (c - m + j)).1 ∧ mi σ w (27 + 3 * j + 1) = nI (lg (c - m + j)).2.1 ∧ mi σ w (27 + 3 * j + 2) = nI (lg (c - m + j)).2.2) : LgM (setI (setI (setI (setI σ w (27 + 3 * m) (nI v.1)) w (27 + 3 * m + 1) (nI v.2.1)) w (27 + 3 * m + 2) (nI v.2.2)) w 26 (nI (m + 1))) w (c + 1) (updG lg c v) := by
  have e1 : min 60 (c + 1) = m + 1 := by omega
  have e3 : m ≤ c := by omega
  rw [LgM, e1]
  refine ⟨mi_eq _ _ _ _, fun j hj => ?_⟩
  have e2 : c + 1 - (m + 1) + j = c - m + j := by omega
  rw [e2]
  by_cases e : j = m
  · subst e
    have e4 : c - j + j = c := by omega
    simp (disch := omega) only [mi_ne, mi_eq, updG, e4, if_true, ↓reduceIte, and_self]
  · have e4 : ¬ c - m + j = c := by omega
    simp (disch := omega) only [mi_ne, mi_eq, updG, e4, if_false, ↓reduceIte]
    exact hlo j (by omega)
def eS (w : Nat) : Nat → Nat → Bool := fun a j => a == w && decide (25 ≤ j)
theorem gyE_m {N : Nat} {σ : Me} (h : Sh σ) {w : Nat} (hw : w = 71 ∨ w = 72) {t c d b rain : Nat} {lg : Lg} (hN : 200 ≤ N) (e25 : mi σ w 25 = nI t) (hl : LgM σ w c lg) (ed : mi σ 60 36 = nI d) (eb : mi σ 60 37 = nI b) :
    ∃ σ' : Me, gyE N (some 60) (some w) (nI rain) σ = some ((), σ') ∧ Fr (eS w) σ σ' ∧ mi σ' w 25 = nI (t + 1) ∧ LgM σ' w (c + 1) (updG lg c (rain, d, b)) := by
  have hw2 : 71 ≤ w ∧ w ≤ 72 := by omega
  have kw := h.w hw
  obtain ⟨l1, l2⟩ := hl
  by_cases hc : c < 60
  · have e1 : min 60 c = c := by omega
    rw [e1] at l1 l2
    have hs : Sh (setI σ w 25 (nI (t + 1))) := h
    have g := gy392_m (N := N) (rain := rain) (m := c) hs hw hc (d := d) (b := b) (by simp (disch := omega) only [mi_ne]; exact l1) (by simp (disch := omega) only [mi_ne]; exact ed) (by simp (disch := omega) only [mi_ne]; exact eb)
    refine ⟨_, ?_, ?_, ?_, LgM.put (σ := setI σ w 25 (nI (t + 1))) (lg := lg) (v := (rain, d, b)) (m := c) (c := c) (by omega) (fun j hj => ?_)⟩
    · have n60 : ¬ c = 60 := by omega
      rw [← g]
      simp (disch := omega) only [gyE, qI, qL, qR, pI, pL, pR, ldI_lo, ldB_lo, ldZ, ldL, stI, stB, stZ, stL, dr_setI, dr_setL, dr_setR, arr_setI, arr_setL, arr_setR, aLn_setI, aLn_setL, aLn_setR, mr_setI, mr_setL, mi_setL, mi_setR, ml_setI, ml_setR, mi_eq, mi_ne, ml_eq, ml_ne, mr_eq, mr_ne, bnd, nI_clamp, PM h, kw, y25, y26, y60, y1, nI_add, pk_mul, nI_leI, nI_ltI, nI_eq, dv_n, rm_n, min_N, max_N, e25, l1, n60, if_true, if_false, ↓reduceIte, and_true, true_and, and_false, false_and, not_true_eq_false, not_false_eq_true, and_self]
    · repeat (refine fr_I (by simp [eS] <;> omega) ?_)
      exact Fr.rf _ _
    · simp (disch := omega) only [mi_ne, mi_eq]
    · simp (disch := omega) only [mi_ne, mi_eq]
      exact l2 j hj
  · have e1 : min 60 c = 60 := by omega
    rw [e1] at l1 l2
    have hs : Sh (setI σ w 25 (nI (t + 1))) := h
    obtain ⟨σ1, s1, s2, s3⟩ := shift_m (N := N) hs hw (nI rain) hN
    have sw : ∀ j, j < 207 → arr σ1 .int (some w) (nI j) = some w := fun j hj => by rw [Fr_a s2]; exact kw j hj
    have e26 : mi σ1 w 26 = nI 60 := by rw [s2.i (by simp [shS]), mi_ne _ _ (by omega)]; exact l1
    have e25' : mi σ1 w 25 = nI (t + 1) := by rw [s2.i (by simp [shS]), mi_eq]
    have i60 : ∀ j, shS w 60 j = false := fun j => by simp [shS] <;> omega
    have ed' : mi σ1 60 36 = nI d := by rw [s2.i (i60 _), mi_ne _ _ (by omega)]; exact ed
    have eb' : mi σ1 60 37 = nI b := by rw [s2.i (i60 _), mi_ne _ _ (by omega)]; exact eb
    have hf : Sf (shS w) := by
      rcases hw with rfl | rfl
      · have h : ∀ q ∈ rfL, shS 71 q.1.1 q.1.2 = false := by decide +kernel
        exact h
      · have h : ∀ q ∈ rfL, shS 72 q.1.1 q.1.2 = false := by decide +kernel
        exact h
    have hs1 : Sh (setI σ1 w 26 (nI 59)) := s2.sh hf hs
    have g := gy392_m (N := N) (rain := rain) (m := 59) hs1 hw (by decide) (d := d) (b := b) (mi_eq _ _ _ _) (by simp (disch := omega) only [mi_ne]; exact ed') (by simp (disch := omega) only [mi_ne]; exact eb')
    refine ⟨_, ?_, ?_, ?_, LgM.put (σ := setI σ1 w 26 (nI 59)) (lg := lg) (v := (rain, d, b)) (m := 59) (c := c) (by omega) (fun j hj => ?_)⟩
    · rw [← g]
      have n60 : (60 : Nat) = 60 := rfl
      have x1 : gyE N (some 60) (some w) (nI rain) σ = fc12_goYear_354 N N (some 60) (some w) (nI rain) (nI 1) (setI σ w 25 (nI (t + 1))) := by
        simp (disch := omega) only [gyE, qI, qL, qR, pI, pL, pR, ldI_lo, ldB_lo, ldZ, ldL, stI, stB, stZ, stL, dr_setI, dr_setL, dr_setR, arr_setI, arr_setL, arr_setR, aLn_setI, aLn_setL, aLn_setR, mr_setI, mr_setL, mi_setL, mi_setR, ml_setI, ml_setR, mi_eq, mi_ne, ml_eq, ml_ne, mr_eq, mr_ne, bnd, nI_clamp, PM h, kw, y25, y26, y60, y1, nI_add, pk_mul, nI_leI, nI_ltI, nI_eq, dv_n, rm_n, min_N, max_N, e25, l1, n60, if_true, if_false, ↓reduceIte, and_true, true_and, and_false, false_and, not_true_eq_false, not_false_eq_true, and_self]
      rw [x1, s1]
      have x2 : nI 60 - nI 1 = nI 59 := pk_sub (by decide)
      simp (disch := omega) only [gySe, qI, qL, qR, pI, pL, pR, ldI_lo, ldB_lo, ldZ, ldL, stI, stB, stZ, stL, dr_setI, dr_setL, dr_setR, arr_setI, arr_setL, arr_setR, aLn_setI, aLn_setL, aLn_setR, mr_setI, mr_setL, mi_setL, mi_setR, ml_setI, ml_setR, mi_eq, mi_ne, ml_eq, ml_ne, mr_eq, mr_ne, bnd, nI_clamp, sw, y26, y1, e26, x2]
    · repeat (refine fr_I (by simp [eS] <;> omega) ?_)
      refine Fr.tr (fr_I (by simp [eS]) (Fr.rf _ σ)) (s2.mono (fun a j e => ?_))
      simp only [eS, shS, Bool.and_eq_false_iff, decide_eq_false_iff_not, beq_eq_false_iff_ne] at e ⊢
      omega
    · simp (disch := omega) only [mi_ne, mi_eq]
      exact e25'
    · simp (disch := omega) only [mi_ne, mi_eq]
      have a1 := s3 (3 * j) (by omega)
      have a2 := s3 (3 * j + 1) (by omega)
      have a3 := s3 (3 * j + 2) (by omega)
      obtain ⟨b1, b2, b3⟩ := l2 (j + 1) (by omega)
      rw [show 27 + 3 * j + 1 = 27 + (3 * j + 1) by omega, show 27 + 3 * j + 2 = 27 + (3 * j + 2) by omega, a1, a2, a3, mi_ne _ _ (by omega), mi_ne _ _ (by omega), mi_ne _ _ (by omega)]
      rw [show c - 59 + j = c - 60 + (j + 1) by omega, show 27 + 3 * j + 3 = 27 + 3 * (j + 1) by omega, show 27 + (3 * j + 1) + 3 = 27 + 3 * (j + 1) + 1 by omega, show 27 + (3 * j + 2) + 3 = 27 + 3 * (j + 1) + 2 by omega]
      exact ⟨b1, b2, b3⟩
theorem bt_0 (k : Nat) : bt 0 k = 0 := by unfold bt; simp
theorem lfM_0 (d : Nat → Nat) : ∀ (m k l : Nat), lfM 0 d m k l = l
  | 0, _, _ => rfl
  | m + 1, k, l => by
    unfold lfM
    rw [bt_0, if_neg (by decide), lfM_0 d m (k + 1) l]
theorem cnt_0 : ∀ n, cnt 0 n = 0
  | 0 => rfl
  | n + 1 => by unfold cnt; rw [cnt_0 n, bt_0]
/-- what a year of the reference writes -/
def yS (w : Nat) : Nat → Nat → Bool := fun a j => oS a j || a == 75 || a == 76 || a == w || (a == 60 && (j == 36 || j == 37))
def YkM (σ : Me) (P : Pl) (q : PF) (r : Rw) (rain : Nat) : Prop := mi σ 60 36 = nI (bitsY P q r rain) ∧ mi σ 60 37 = nI (borY P q r rain) ∧ ∀ f, f < pn P → mi σ 75 f = nI (falY P q r rain f) ∧ mi σ 76 f = nI (brnY P q r rain f)
theorem goYear_m {N : Nat} {J : Me → Prop} {q : PF} (hJ : PdM N J q) (hq : QB q) {w : Nat} (hw : w = 71 ∨ w = 72) {P : Pl} {r : Rw} {rain c : Nat} {lg : Lg} (hB : PlB P) (hRB : RwB (pn P) r) (h2 : 2 ≤ pn P) (hr : rain ≤ 99) (hN : 200 ≤ N) {σ : Me} (hj : J σ) (hP : PlM σ P) (hR : RwM σ w (pn P) r) (hl : LgM σ w c lg) :
    ∃ σ' : Me, fc12_goYear N 60 (some w) (nI rain) σ = some ((), σ') ∧ Fr (yS w) σ σ' ∧ J σ' ∧ RwM σ' w (pn P) (yrY P q r rain) ∧ LgM σ' w (c + 1) (updG lg c (rain, bitsY P q r rain, borY P q r rain)) ∧ YkM σ' P q r rain := by
  have b6 := hB.1
  have b7 : rain / pn P ≤ rain / 2 := Nat.div_le_div_left h2 (by decide)
  have hw2 : 71 ≤ w ∧ w ≤ 72 := by omega
  have h := hJ.1 σ hj
  obtain ⟨σ1, z1, z2, z3⟩ := goYear2_m (N := N) hw hB hRB h2 hr (pn P) 0 N σ h hP (by omega) (by omega) (fun f hf => absurd hf (Nat.not_lt_zero _)) (fun f _ hf => (hR.2.2 f hf).1)
  have z2j := z2.mono (fun a j e => iS_j hw e)
  have hj1 := hJ.2.1 _ _ hj z2j
  have hP1 := hP.fr z2j rfl (fun _ => ⟨rfl, rfl⟩)
  have ix : ∀ j, (24 ≤ j ∨ j % 4 ≠ 0) → iS w w j = false := fun j hj => by simp [iS] <;> omega
  have hR1 : RwM σ1 w (pn P) (gN P r, r.2) := by
    refine ⟨by rw [z2.i (ix _ (by omega))]; exact hR.1, by rw [z2.i (ix _ (by omega))]; exact hR.2.1, fun f hf => ⟨z3 f hf, ?_, ?_, ?_⟩⟩
    · rw [z2.i (ix _ (by omega))]; exact (hR.2.2 f hf).2.1
    · rw [z2.i (ix _ (by omega))]; exact (hR.2.2 f hf).2.2.1
    · rw [z2.i (ix _ (by omega))]; exact (hR.2.2 f hf).2.2.2
  have hRB1 : RwB (pn P) (gN P r, r.2) := ⟨hRB.1, hRB.2.1, fun f hf => ⟨g_le P r f, (hRB.2.2 f hf).2⟩⟩
  obtain ⟨σ2, u1, u2, u3, u4⟩ := goYear50_m hJ hq hw (r := (gN P r, r.2)) (d := dN P q r (rain / pn P)) (rain := rain) (s := rain / pn P) hB hRB1 hr (by omega) (by omega) (fun f => rfl) (pn P) 0 N σ1 0 hj1 hP1 hR1 (by omega) (by omega) (by decide) (fun j _ e => by rw [bt_0] at e; cases e) (cnt_0 _) (fun f _ e => by rw [bt_0] at e; cases e)
  rw [lfM_0] at u1
  have hP2 := hP1.fr u2 rfl (fun _ => ⟨rfl, rfl⟩)
  have fw : ∀ j, fS w j = false := fun j => by rcases hw with rfl | rfl <;> rfl
  have hR2 := hR1.fr u2 fw
  have h3 : Sh (setI (setI σ2 60 36 (nI 0)) 60 37 (nI 0)) := hJ.1 σ2 u3
  have hP3 : PlM (setI (setI σ2 60 36 (nI 0)) 60 37 (nI 0)) P := hP2.fr (S := jS) ((Fr.rf _ σ2).setI _ rfl |>.setI _ rfl) rfl (fun _ => ⟨rfl, rfl⟩)
  have hF9 : ∀ f, falY P q r rain f ≤ 99 := fun f => Nat.le_trans (falY_le _ _ _ _ _) hr
  have hF3 : ∀ f, f < pn P → mi (setI (setI σ2 60 36 (nI 0)) 60 37 (nI 0)) 75 f = nI (falY P q r rain f) := fun f hf => by
    simp (disch := omega) only [mi_ne]; exact u4 f hf
  have hI3 : BrM P r (falY P q r rain) (rain / pn P) w (setI (setI σ2 60 36 (nI 0)) 60 37 (nI 0)) 0 (setI (setI σ2 60 36 (nI 0)) 60 37 (nI 0)) := by
    refine ⟨Fr.rf _ _, by simp (disch := omega) only [mi_ne, mi_eq]; rfl, by simp (disch := omega) only [mi_ne, mi_eq]; rfl, fun f hf => absurd hf (Nat.not_lt_zero _), fun f hf => ?_, fun f _ hf => ?_⟩
    · simp (disch := omega) only [mi_ne]; exact (hR2.2.2 f hf).2.1
    · simp (disch := omega) only [mi_ne]; exact ⟨(hR2.2.2 f hf).1, (hR2.2.2 f hf).2.2.1, (hR2.2.2 f hf).2.2.2⟩
  obtain ⟨σ4, v1, v2, v3, v4, v5, v6, -⟩ := goYear130_m (N := N) (rain := nI rain) (s := rain / pn P) hw hB hRB hF9 (by omega) (by omega) h3 hP3 hF3 hI3
  have h4 := v2.sh (bS_f hw) h3
  have bw : ∀ j, 24 ≤ j → bS w w j = false := fun j hj => by simp [bS] <;> omega
  have q24 : ∀ j, 24 ≤ j → mi σ4 w j = mi σ w j := fun j hj => by
    rw [v2.i (bw j hj), mi_ne _ _ (by omega), mi_ne _ _ (by omega), u2.i (fw j), z2.i (ix j (by omega))]
  have hl4 : LgM σ4 w c lg := ⟨by rw [q24 _ (by omega)]; exact hl.1, fun j hj => by rw [q24 _ (by omega), q24 _ (by omega), q24 _ (by omega)]; exact hl.2 j hj⟩
  obtain ⟨σ5, w1, w2, w3, w4⟩ := gyE_m (N := N) (rain := rain) h4 hw hN (by rw [q24 _ (by omega)]; exact hR.2.1) hl4 v3 v4
  have ew : ∀ j, j < 25 → eS w w j = false := fun j hj => by simp [eS] <;> omega
  have eo : ∀ a j, a ≠ w → eS w a j = false := fun a j ha => by simp [eS] <;> omega
  have f3 : Fr (yS w) σ σ2 := by
    refine Fr.tr (z2.mono (fun a j e => ?_)) (u2.mono (fun a j e => ?_))
    · simp only [yS, iS, Bool.or_eq_false_iff, Bool.and_eq_false_iff, decide_eq_false_iff_not, beq_eq_false_iff_ne] at e ⊢
      omega
    · simp only [yS, fS, Bool.or_eq_false_iff] at e ⊢
      exact ⟨e.1.1.1.1, e.1.1.1.2⟩
  have f4 : Fr (yS w) σ2 σ4 := by
    refine Fr.tr (fr_I (by simp [yS]) (fr_I (by simp [yS]) (Fr.rf _ _))) (v2.mono (fun a j e => ?_))
    simp only [yS, bS, Bool.or_eq_false_iff, Bool.and_eq_false_iff, decide_eq_false_iff_not, beq_eq_false_iff_ne] at e ⊢
    omega
  have f5 : Fr (yS w) σ4 σ5 := w2.mono (fun a j e => by
    simp only [yS, eS, Bool.or_eq_false_iff, Bool.and_eq_false_iff, decide_eq_false_iff_not, beq_eq_false_iff_ne] at e ⊢
    omega)
  have f25 : Fr jS σ2 σ5 := by
    refine Fr.tr (Fr.tr (fr_I rfl (fr_I rfl (Fr.rf _ _))) (v2.mono (fun a j e => ?_))) (w2.mono (fun a j e => ?_))
    · simp only [jS, bS, Bool.or_eq_false_iff, Bool.and_eq_false_iff, decide_eq_false_iff_not, beq_eq_false_iff_ne] at e ⊢
      omega
    · simp only [jS, eS, Bool.or_eq_false_iff, Bool.and_eq_false_iff, decide_eq_false_iff_not, beq_eq_false_iff_ne] at e ⊢
      omega
  have b75 : ∀ j, bS w 75 j = false := fun j => by simp [bS] <;> omega
  refine ⟨σ5, ?_, (f3.tr f4).tr f5, hJ.2.1 _ _ u3 f25, ⟨?_, w3, fun f hf => ?_⟩, w4, ?_, ?_, fun f hf => ?_⟩
  · unfold fc12_goYear
    rw [y0, z1, u1, v1, w1]
  · rw [w2.i (ew _ (by omega)), q24 _ (by omega)]; exact hR.1
  · have v5f := v5 f hf
    rw [w2.i (ew _ (by omega)), w2.i (ew _ (by omega)), w2.i (ew _ (by omega)), w2.i (ew _ (by omega))]
    exact ⟨v5f.1, v6 f hf, v5f.2.1, v5f.2.2.1⟩
  · rw [w2.i (eo _ _ (by omega))]; exact v3
  · rw [w2.i (eo _ _ (by omega))]; exact v4
  · rw [w2.i (eo _ _ (by omega)), w2.i (eo _ _ (by omega)), v2.i (b75 _)]
    exact ⟨hF3 f hf, (v5 f hf).2.2.2⟩
