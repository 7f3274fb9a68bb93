/-! acts on a land -/
theorem nix (x : Int32) {n : Nat} (hn : n < 2 ^ 31) : (x < 0 ∨ nI n ≤ x) ∨ ∃ j : Nat, j < n ∧ x = nI j := by
  rcases pk_ix x hn with h | h | h
  · exact .inl (.inl h)
  · exact .inl (.inr h)
  · exact .inr h
theorem nI_inj {a b : Nat} (h : nI a = nI b) (ha : a < 2 ^ 31) (hb : b < 2 ^ 31) : a = b := (nI_eq ha hb).mp h
theorem pn_fix {n : Nat} {x : Int32} (h : x < 0 ∨ nI n ≤ x) (hn : n < 2 ^ 31) {j : Nat} (hj : j < n) (e : x = nI j) : False := by
  subst e
  rcases h with h | h
  · exact nI_pos (by omega) h
  · exact nI_ge hj (by omega) h
section LAND
variable {N : Nat} {σ : Me} {a : Nat} {P : Pl} {r : Rw}
theorem has_y (h : Sh σ) (ha : a = 19 ∨ a = 25) {n j : Nat} (hn : mi σ a 5 = nI n) (h6 : n ≤ 6) (hj : j < n) : fc2_has N a (nI j) σ = some (1, σ) := by
  obtain ⟨k0, -⟩ := h.ldk ha
  have c : ¬ n ≤ j := by omega
  have c0 := nI_pos (n := j) (by omega)
  simp (disch := omega) only [fc2_has, c0, qI, k0, bnd, hn, nI_leI, c, if_true, if_false, ↓reduceIte, and_true, true_and, and_false, false_and, not_true_eq_false, not_false_eq_true, and_self, retZ1]
theorem has_n (h : Sh σ) (ha : a = 19 ∨ a = 25) {n : Nat} {x : Int32} (hn : mi σ a 5 = nI n) (hx : x < 0 ∨ nI n ≤ x) : fc2_has N a x σ = some (0, σ) := by
  obtain ⟨k0, -⟩ := h.ldk ha
  unfold fc2_has
  by_cases c : x < 0
  · rw [if_pos c]; rfl
  · rw [if_neg c]
    simp only [qI, k0, bnd, hn]
    rw [if_pos (hx.resolve_left c)]
    rfl
theorem rain_y {j : Nat} (hj : j ≤ 99) : fc11_isRain N (nI j) σ = some (1, σ) := by
  have c : ¬ 99 < j := by omega
  have c0 := nI_pos (n := j) (by omega)
  simp (disch := omega) only [fc11_isRain, c0, y99, nI_ltI, c, if_true, if_false, ↓reduceIte, and_true, true_and, and_false, false_and, not_true_eq_false, not_false_eq_true, and_self, retZ1]
theorem rain_n {x : Int32} (hx : x < 0 ∨ nI 100 ≤ x) : fc11_isRain N x σ = some (0, σ) := by
  unfold fc11_isRain
  by_cases c : x < 0
  · rw [if_pos c]; rfl
  · rw [if_neg c, if_pos]
    · rfl
    · rcases hx with q | q
      · exact absurd q c
      · rw [i_toInt_lt, y99, nI_toInt (by decide)]
        rw [i_toInt_le, nI_toInt (by decide)] at q
        omega
theorem some_y {j : Nat} (h1 : 1 ≤ j) (hj : j ≤ 20) : fc11_isSomeAtOnce N (nI j) σ = some (1, σ) := by
  have c : ¬ 20 < j := by omega
  have c1 : ¬ j < 1 := by omega
  simp (disch := omega) only [fc11_isSomeAtOnce, y1, y20, nI_ltI, c, c1, if_true, if_false, ↓reduceIte, and_true, true_and, and_false, false_and, not_true_eq_false, not_false_eq_true, and_self]
  rfl
theorem some_n {x : Int32} (hx : ¬ ∃ j : Nat, 1 ≤ j ∧ j ≤ 20 ∧ x = nI j) : fc11_isSomeAtOnce N x σ = some (0, σ) := by
  unfold fc11_isSomeAtOnce
  by_cases c : x < 1
  · rw [if_pos c]; rfl
  · by_cases c2 : (20 : Int32) < x
    · rw [if_neg c, if_pos c2]; rfl
    · exfalso
      rw [i_toInt_lt] at c c2
      rw [y1, nI_toInt (by decide)] at c
      rw [y20, nI_toInt (by decide)] at c2
      obtain ⟨j, hj, rfl⟩ := nI_of (x := x) (by rw [i_toInt_lt]; show ¬ x.toInt < 0; omega)
      rw [nI_toInt hj] at c c2
      exact hx ⟨j, by omega, by omega, rfl⟩
theorem sky_y (h : Sh σ) {n j : Nat} (hn : mi σ 19 5 = nI n) (h6 : n ≤ 6) (h0 : 0 < n) (hj : j ≤ 99) : fc11_isSky N 0 (nI j) σ = some (1, σ) := by
  have c : ¬ n ≤ 0 := by omega
  have c1 : ¬ nI n ≤ 0 := nI_nle h0 (by omega)
  simp (disch := omega) only [fc11_isSky, qR, qI, PK h, bnd, hn, c1, if_true, if_false, ↓reduceIte, and_true, true_and, and_false, false_and, not_true_eq_false, not_false_eq_true, and_self, rain_y]
  rfl
theorem sky_n (h : Sh σ) {n : Nat} {x : Int32} (hn : mi σ 19 5 = nI n) (h6 : n ≤ 6) (hx : n = 0 ∨ x < 0 ∨ nI 100 ≤ x) : fc11_isSky N 0 x σ = some (0, σ) := by
  by_cases c : n = 0
  · subst c
    have c1 : nI 0 ≤ 0 := by decide
    simp (disch := omega) only [fc11_isSky, qR, qI, PK h, bnd, hn, c1, if_true, if_false, ↓reduceIte, and_true, true_and, and_false, false_and, not_true_eq_false, not_false_eq_true, and_self]
    rfl
  · have c1 : ¬ nI n ≤ 0 := nI_nle (by omega) (by omega)
    have hx2 : x < 0 ∨ nI 100 ≤ x := hx.resolve_left c
    simp (disch := omega) only [fc11_isSky, qR, qI, PK h, bnd, hn, c1, if_true, if_false, ↓reduceIte, and_true, true_and, and_false, false_and, not_true_eq_false, not_false_eq_true, and_self, rain_n hx2]
    rfl
theorem pair_y (h : Sh σ) {n i j : Nat} (hn : mi σ 19 5 = nI n) (h6 : n ≤ 6) (hi : i < n) (hj : j < n) (hij : i ≠ j) : fc11_isPair N 0 (nI i) (nI j) σ = some (1, σ) := by
  have c : ¬ (1 : Int32) = 0 := by decide
  simp (disch := omega) only [fc11_isPair, qR, PK h, bnd, has_y h (.inl rfl) hn h6 hi, has_y h (.inl rfl) hn h6 hj, c, nI_eq, hij, if_true, if_false, ↓reduceIte, and_true, true_and, and_false, false_and, not_true_eq_false, not_false_eq_true, and_self]
  rfl
theorem pair_n (h : Sh σ) {n : Nat} {x y : Int32} (hn : mi σ 19 5 = nI n) (h6 : n ≤ 6) (hx : ¬ ∃ i j : Nat, i < n ∧ j < n ∧ i ≠ j ∧ x = nI i ∧ y = nI j) : fc11_isPair N 0 x y σ = some (0, σ) := by
  have c : ¬ (1 : Int32) = 0 := by decide
  rcases nix x (n := n) (by omega) with q | ⟨i, hi, rfl⟩
  · simp (disch := omega) only [fc11_isPair, qR, PK h, bnd, has_n h (.inl rfl) hn q, if_true, if_false, ↓reduceIte, and_true, true_and, and_false, false_and, not_true_eq_false, not_false_eq_true, and_self]
    rfl
  · rcases nix y (n := n) (by omega) with q | ⟨j, hj, rfl⟩
    · simp (disch := omega) only [fc11_isPair, qR, PK h, bnd, has_y h (.inl rfl) hn h6 hi, has_n h (.inl rfl) hn q, c, if_true, if_false, ↓reduceIte, and_true, true_and, and_false, false_and, not_true_eq_false, not_false_eq_true, and_self]
      rfl
    · by_cases e : i = j
      · subst e
        simp (disch := omega) only [fc11_isPair, qR, PK h, bnd, has_y h (.inl rfl) hn h6 hi, c, if_true, if_false, ↓reduceIte, and_true, true_and, and_false, false_and, not_true_eq_false, not_false_eq_true, and_self]
        rfl
      · exact absurd ⟨i, j, hi, hj, e, rfl, rfl⟩ hx
/-! sales -/
def rSell (r : Rw) (i j m : Nat) : Rw := (fun f => if f = j then min 999 (ro r j + m) else if f = i then ro r i - m else ro r f, rn r, rw_ r, fun f => if f = j then rc r j - m * rp r else if f = i then rc r i + m * rp r else rc r f, rp r, rt r)
theorem ro_sell (r : Rw) (i j m f : Nat) : ro (rSell r i j m) f = if f = j then min 999 (ro r j + m) else if f = i then ro r i - m else ro r f := rfl
theorem rc_sell (r : Rw) (i j m f : Nat) : rc (rSell r i j m) f = if f = j then rc r j - m * rp r else if f = i then rc r i + m * rp r else rc r f := rfl
def saleB (r : Rw) (i j m : Nat) : Bool := decide (m ≤ ro r i) && decide (m * rp r ≤ rc r j) && decide (rc r i + m * rp r ≤ 999)
theorem sale_m {r : Rw} {n m : Nat} (hR : RwB n r) (hm : m ≤ 20) : m * rp r ≤ 600 := Nat.mul_le_mul hm hR.1
theorem isSale_c (h : Sh σ) (ha : a = 19 ∨ a = 25) (hL : LdC σ a P r) (h6 : pn P ≤ 6) (hR : RwB (pn P) r) {i j m : Nat} (hi : i < pn P) (hj : j < pn P) (hm : m ≤ 20) : fc2_isSale N a (nI i) (nI j) (nI m) σ = some (if saleB r i j m = true then 1 else 0, σ) := by
  obtain ⟨k0, k1, k2, k3, k4, k5, m0, m1, m2, m3, m4⟩ := h.ldk ha
  obtain ⟨l5, l6, l7, l8, l9, lf⟩ := hL
  obtain ⟨e1, -, -, -, e5⟩ := lf i hi
  obtain ⟨-, -, -, -, f5⟩ := lf j hj
  obtain ⟨b1, -, -, b4⟩ := hR.2.2 i hi
  obtain ⟨-, -, -, d4⟩ := hR.2.2 j hj
  have hs := sale_m hR hm
  have ha2 : a ≤ 25 := by omega
  have hE : ∀ x : Nat, x = m * rp r → saleB r i j m = (decide (m ≤ ro r i) && decide (x ≤ rc r j) && decide (rc r i + x ≤ 999)) := fun x e => by subst e; rfl
  rw [hE _ rfl]
  generalize hx : m * rp r = x at hs
  by_cases c1 : ro r i < m
  · have n1 : ¬ m ≤ ro r i := by omega
    simp (disch := omega) only [fc2_isSale, qI, qR, k0, bnd, l8, m0, m4, ldI_lo, k1, k5, nI_clamp, e1, e5, f5, nI_ltI, c1, if_true, if_false, ↓reduceIte, and_true, true_and, and_false, false_and, not_true_eq_false, not_false_eq_true, and_self, n1, decide_false, Bool.false_and, Bool.false_eq_true]
    rfl
  · have n1 : m ≤ ro r i := by omega
    by_cases c2 : rc r j < x
    · have n2 : ¬ x ≤ rc r j := by omega
      simp (disch := omega) only [fc2_isSale, qI, qR, k0, bnd, l8, m0, m4, ldI_lo, k1, k5, nI_clamp, e1, e5, f5, pk_mul, hx, nI_ltI, c1, c2, if_true, if_false, ↓reduceIte, and_true, true_and, and_false, false_and, not_true_eq_false, not_false_eq_true, and_self, n1, n2, decide_false, decide_true, Bool.false_and, Bool.and_false, Bool.true_and, Bool.false_eq_true]
      rfl
    · have n2 : x ≤ rc r j := by omega
      by_cases c3 : 999 < rc r i + x
      · have n3 : ¬ rc r i + x ≤ 999 := by omega
        simp (disch := omega) only [fc2_isSale, qI, qR, k0, bnd, l8, m0, m4, ldI_lo, k1, k5, nI_clamp, e1, e5, f5, pk_mul, hx, y999, nI_add, nI_ltI, c1, c2, c3, if_true, if_false, ↓reduceIte, and_true, true_and, and_false, false_and, not_true_eq_false, not_false_eq_true, and_self, n1, n2, n3, decide_false, decide_true, Bool.false_and, Bool.and_false, Bool.true_and, Bool.false_eq_true]
        rfl
      · have n3 : rc r i + x ≤ 999 := by omega
        simp (disch := omega) only [fc2_isSale, qI, qR, k0, bnd, l8, m0, m4, ldI_lo, k1, k5, nI_clamp, e1, e5, f5, pk_mul, hx, y999, nI_add, nI_ltI, c1, c2, c3, if_true, if_false, ↓reduceIte, and_true, true_and, and_false, false_and, not_true_eq_false, not_false_eq_true, and_self, n1, n2, n3, decide_false, decide_true, Bool.false_and, Bool.and_false, Bool.true_and, Bool.false_eq_true]
        rfl
theorem saleB_y {r : Rw} {i j m : Nat} (h : saleB r i j m = true) : m ≤ ro r i ∧ m * rp r ≤ rc r j ∧ rc r i + m * rp r ≤ 999 := by
  simp only [saleB, Bool.and_eq_true, decide_eq_true_eq] at h
  exact ⟨h.1.1, h.1.2, h.2⟩
theorem RwB.sell {n : Nat} {i j m : Nat} (h : RwB n r) (hs : saleB r i j m = true) : RwB n (rSell r i j m) := by
  obtain ⟨s1, s2, s3⟩ := saleB_y hs
  refine ⟨h.1, h.2.1, fun f hf => ?_⟩
  obtain ⟨b1, b2, b3, b4⟩ := h.2.2 f hf
  refine ⟨?_, b2, b3, ?_⟩
  · show (if f = j then min 999 (ro r j + m) else if f = i then ro r i - m else ro r f) ≤ 999
    by_cases e : f = j
    · rw [if_pos e]; exact Nat.min_le_left _ _
    · rw [if_neg e]
      by_cases e2 : f = i
      · subst e2; rw [if_pos rfl]; omega
      · rw [if_neg e2]; exact b1
  · show (if f = j then rc r j - m * rp r else if f = i then rc r i + m * rp r else rc r f) ≤ 999
    by_cases e : f = j
    · subst e; rw [if_pos rfl]; omega
    · rw [if_neg e]
      by_cases e2 : f = i
      · subst e2; rw [if_pos rfl]; exact s3
      · rw [if_neg e2]; exact b4
theorem handOver_c (h : Sh σ) (ha : a = 19 ∨ a = 25) (hL : LdC σ a P r) (h6 : pn P ≤ 6) (hR : RwB (pn P) r) {i j m : Nat} (hi : i < pn P) (hj : j < pn P) (hij : i ≠ j) (hm : m ≤ 20) (hs : saleB r i j m = true) :
    ∃ σ' : Me, fc2_handOver N a (nI i) (nI j) (nI m) σ = some ((), σ') ∧ Fr (ldS a) σ σ' ∧ LdC σ' a P (rSell r i j m) := by
  obtain ⟨k0, k1, k2, k3, k4, k5, m0, m1, m2, m3, m4⟩ := h.ldk ha
  obtain ⟨l5, l6, l7, l8, l9, lf⟩ := hL
  obtain ⟨e1, -, -, -, e5⟩ := lf i hi
  obtain ⟨f1, -, -, -, f5⟩ := lf j hj
  obtain ⟨b1, -, -, b4⟩ := hR.2.2 i hi
  obtain ⟨d1, -, -, d4⟩ := hR.2.2 j hj
  obtain ⟨s1, s2, s3⟩ := saleB_y hs
  have hsm := sale_m hR hm
  have ha2 : a ≤ 25 := by omega
  have q1 := pk_sub s1
  have q2 := pk_sub s2
  have hji : j ≠ i := fun e => hij e.symm
  refine ⟨setI (setI (setI (setI σ (a + 1) i (nI (ro r i - m))) (a + 1) j (nI (min 999 (ro r j + m)))) (a + 5) i (nI (rc r i + m * rp r))) (a + 5) j (nI (rc r j - m * rp r)), ?_, ?_, ?_⟩
  · simp (disch := omega) only [fc2_handOver, qI, qL, qR, pI, pL, pR, ldI_lo, ldB_lo, ldZ, ldL, stI, stB, stZ, stL, dr_setI, dr_setL, dr_setR, arr_setI, arr_setL, arr_setR, aLn_setI, aLn_setL, aLn_setR, mr_setI, mr_setL, mi_setL, mi_setR, ml_setI, ml_setR, mi_eq, mi_ne, ml_eq, ml_ne, mr_eq, mr_ne, bnd, nI_clamp, k0, k1, k5, m0, m4, l8, e1, e5, f1, f5, q1, q2, y999, nI_add, pk_mul, min_N]
  · refine fr_I (by simp [ldS]) (fr_I (by simp [ldS]) (fr_I (by simp [ldS]) (fr_I (by simp [ldS]) (Fr.rf _ _))))
  · refine ⟨?_, ?_, ?_, ?_, ?_, fun f hf => ?_⟩
    · simp (disch := omega) only [mi_ne]; exact l5
    · simp (disch := omega) only [mi_ne]; exact l6
    · simp (disch := omega) only [mi_ne]; exact l7
    · simp (disch := omega) only [mi_ne]; exact l8
    · simp (disch := omega) only [mi_ne]; exact l9
    · obtain ⟨g1, g2, g3, g4, g5⟩ := lf f hf
      by_cases e : f = j
      · subst e
        simp (disch := omega) only [mi_ne, mi_eq, ro_sell, rc_sell, if_true, ↓reduceIte]
        exact ⟨trivial, g2, g3, g4, trivial⟩
      · by_cases e2 : f = i
        · subst e2
          simp (disch := omega) only [mi_ne, mi_eq, ro_sell, rc_sell, e, if_false, if_true, ↓reduceIte]
          exact ⟨trivial, g2, g3, g4, trivial⟩
        · simp (disch := omega) only [mi_ne, mi_eq, ro_sell, rc_sell, e, e2, if_false, if_true, ↓reduceIte]
          exact ⟨g1, g2, g3, g4, g5⟩
/-! mist -/
def rMist (r : Rw) (i m : Nat) : Rw := (fun f => if f = i then ro r i - m else ro r f, rn r, fun f => min 30 (rw_ r f + 1), rc r, rp r, rt r)
theorem RwB.mist {n i m : Nat} (h : RwB n r) (hi : i < n) : RwB n (rMist r i m) := by
  refine ⟨h.1, h.2.1, fun f hf => ?_⟩
  obtain ⟨b1, b2, b3, b4⟩ := h.2.2 f hf
  refine ⟨?_, b2, Nat.min_le_left _ _, b4⟩
  show (if f = i then ro r i - m else ro r f) ≤ 999
  by_cases e : f = i
  · subst e; rw [if_pos rfl]; omega
  · rw [if_neg e]; exact b1
theorem isMist_y (h : Sh σ) (ha : a = 19 ∨ a = 25) (hL : LdC σ a P r) (h6 : pn P ≤ 6) (hR : RwB (pn P) r) {i m : Nat} (hi : i < pn P) (h1 : 1 ≤ m) (hm : m ≤ 20) (hs : m ≤ ro r i) : fc2_isMist N a (nI i) (nI m) σ = some (1, σ) := by
  obtain ⟨k0, k1, k2, k3, k4, k5, m0, m1, m2, m3, m4⟩ := h.ldk ha
  obtain ⟨l5, l6, l7, l8, l9, lf⟩ := hL
  obtain ⟨e1, -, -, -, e5⟩ := lf i hi
  obtain ⟨b1, -, -, b4⟩ := hR.2.2 i hi
  have ha2 : a ≤ 25 := by omega
  have c : ¬ (1 : Int32) = 0 := by decide
  have c1 : ¬ ro r i < m := by omega
  simp (disch := omega) only [fc2_isMist, k0, bnd, has_y h ha l5 h6 hi, some_y h1 hm, c, if_true, if_false, ↓reduceIte, and_true, true_and, and_false, false_and, not_true_eq_false, not_false_eq_true, and_self, qR, m0, ldI_lo, k1, nI_clamp, e1, nI_ltI, c1, retZ1]
theorem isMist_n (h : Sh σ) (ha : a = 19 ∨ a = 25) (hL : LdC σ a P r) (h6 : pn P ≤ 6) (hR : RwB (pn P) r) {x y : Int32} (hx : ¬ ∃ i m : Nat, i < pn P ∧ 1 ≤ m ∧ m ≤ 20 ∧ m ≤ ro r i ∧ x = nI i ∧ y = nI m) : fc2_isMist N a x y σ = some (0, σ) := by
  obtain ⟨k0, k1, k2, k3, k4, k5, m0, m1, m2, m3, m4⟩ := h.ldk ha
  obtain ⟨l5, l6, l7, l8, l9, lf⟩ := hL
  have ha2 : a ≤ 25 := by omega
  have c : ¬ (1 : Int32) = 0 := by decide
  rcases nix x (n := pn P) (by omega) with q | ⟨i, hi, rfl⟩
  · simp (disch := omega) only [fc2_isMist, k0, bnd, has_n h ha l5 q, if_true, if_false, ↓reduceIte, and_true, true_and, and_false, false_and, not_true_eq_false, not_false_eq_true, and_self, retZ0]
  · by_cases hy : ∃ j : Nat, 1 ≤ j ∧ j ≤ 20 ∧ y = nI j
    · obtain ⟨m, h1, hm, rfl⟩ := hy
      obtain ⟨e1, -, -, -, e5⟩ := lf i hi
      obtain ⟨b1, -, -, b4⟩ := hR.2.2 i hi
      by_cases c1 : ro r i < m
      · simp (disch := omega) only [fc2_isMist, k0, bnd, has_y h ha l5 h6 hi, some_y h1 hm, c, if_true, if_false, ↓reduceIte, and_true, true_and, and_false, false_and, not_true_eq_false, not_false_eq_true, and_self, qR, m0, ldI_lo, k1, nI_clamp, e1, nI_ltI, c1, retZ0]
      · exact absurd ⟨i, m, hi, h1, hm, by omega, rfl, rfl⟩ hx
    · simp (disch := omega) only [fc2_isMist, k0, bnd, has_y h ha l5 h6 hi, some_n hy, c, if_true, if_false, ↓reduceIte, and_true, true_and, and_false, false_and, not_true_eq_false, not_false_eq_true, and_self, retZ0]
theorem mist_c (h : Sh σ) (ha : a = 19 ∨ a = 25) (hL : LdC σ a P r) (h6 : pn P ≤ 6) (hR : RwB (pn P) r) {i m : Nat} (hi : i < pn P) (hs : m ≤ ro r i) (hN : 10 ≤ N) :
    ∃ σ' : Me, fc2_turnToMist N a (nI i) (nI m) σ = some ((), σ') ∧ Fr (ldS a) σ σ' ∧ LdC σ' a P (rMist r i m) := by
  obtain ⟨k0, k1, k2, k3, k4, k5, m0, m1, m2, m3, m4⟩ := h.ldk ha
  obtain ⟨l5, l6, l7, l8, l9, lf⟩ := hL
  obtain ⟨e1, -, -, -, -⟩ := lf i hi
  have ha2 : 19 ≤ a ∧ a ≤ 25 := by omega
  have q1 := pk_sub hs
  have x1 : fc2_turnToMist N a (nI i) (nI m) σ = fc2_turnToMist_12 N N (some a) (nI 0) (setI σ (a + 1) i (nI (ro r i - m))) := by
    simp (disch := omega) only [fc2_turnToMist, qI, qL, qR, pI, pL, pR, ldI_lo, ldB_lo, ldZ, ldL, stI, stB, stZ, stL, dr_setI, dr_setL, dr_setR, arr_setI, arr_setL, arr_setR, aLn_setI, aLn_setL, aLn_setR, mr_setI, mr_setL, mi_setL, mi_setR, ml_setI, ml_setR, mi_eq, mi_ne, ml_eq, ml_ne, mr_eq, mr_ne, bnd, nI_clamp, k0, k1, m0, e1, q1, y0]
  rw [x1]
  refine lp (fun fu k τ => fc2_turnToMist_12 N fu (some a) (nI k) τ) (fun k τ => Fr (fun x j => x == a + 3 || (x == a + 1 && j == i)) σ τ ∧ mi τ (a + 1) i = nI (ro r i - m) ∧ (∀ f, f < k → mi τ (a + 3) f = nI (min 30 (rw_ r f + 1))) ∧ (∀ f, k ≤ f → f < pn P → mi τ (a + 3) f = nI (rw_ r f))) (fun o => ∃ σ' : Me, o = some ((), σ') ∧ Fr (ldS a) σ σ' ∧ LdC σ' a P (rMist r i m)) (pn P) ?_ ?_ (pn P) 0 N _ (by omega) (by omega) ⟨fr_I (by simp) (Fr.rf _ _), mi_eq _ _ _ _, fun f hf => absurd hf (Nat.not_lt_zero _), fun f _ hf => by rw [mi_ne _ _ (by omega)]; exact (lf f hf).2.2.1⟩
  · intro fu τ hI
    obtain ⟨i1, i2, i3, -⟩ := hI
    have ia : ∀ j, (fun x j => x == a + 3 || (x == a + 1 && j == i)) a j = false := fun j => by simp <;> omega
    have i2' : ∀ x j, x ≠ a + 3 → x ≠ a + 1 → (fun x j => x == a + 3 || (x == a + 1 && j == i)) x j = false := fun x j q1 q2 => by simp [q1, q2]
    have d0 : dr τ (some a) (.inl 2) = some a := by rw [Fr_d i1]; exact k0
    have e5 : mi τ a 5 = nI (pn P) := by rw [i1.i (ia _)]; exact l5
    have c : pn P ≤ pn P := Nat.le_refl _
    refine ⟨τ, ?_, i1.mono (fun x j e => ?_), by rw [i1.i (ia _)]; exact l5, by rw [i1.i (ia _)]; exact l6, by rw [i1.i (ia _)]; exact l7, by rw [i1.i (ia _)]; exact l8, by rw [i1.i (ia _)]; exact l9, fun f hf => ?_⟩
    · simp (disch := omega) only [fc2_turnToMist_12, qI, d0, bnd, e5, nI_leI, c, if_true, if_false, ↓reduceIte, and_true, true_and, and_false, false_and, not_true_eq_false, not_false_eq_true, and_self]
    · simp only [ldS, Bool.or_eq_false_iff, Bool.and_eq_false_iff, decide_eq_false_iff_not, beq_eq_false_iff_ne] at e ⊢
      omega
    · obtain ⟨g1, g2, g3, g4, g5⟩ := lf f hf
      refine ⟨?_, by rw [i1.i (i2' _ _ (by omega) (by omega))]; exact g2, i3 f hf, by rw [i1.i (i2' _ _ (by omega) (by omega))]; exact g4, by rw [i1.i (i2' _ _ (by omega) (by omega))]; exact g5⟩
      show _ = nI (if f = i then ro r i - m else ro r f)
      by_cases e : f = i
      · subst e; rw [if_pos rfl]; exact i2
      · rw [if_neg e, i1.i (by simp [e])]; exact g1
  · intro fu k τ hk hI
    obtain ⟨i1, i2, i3, i4⟩ := hI
    refine .inl ?_
    have ia : ∀ j, (fun x j => x == a + 3 || (x == a + 1 && j == i)) a j = false := fun j => by simp <;> omega
    have d0 : dr τ (some a) (.inl 2) = some a := by rw [Fr_d i1]; exact k0
    have d3 : ∀ j, j < 6 → arr τ .int (some (a + 3)) (nI j) = some (a + 3) := fun j hj => by rw [Fr_a i1]; exact k3 j hj
    have n2 : mr τ a 2 = some (a + 3) := by rw [i1.r (ia _)]; exact m2
    have e5 : mi τ a 5 = nI (pn P) := by rw [i1.i (ia _)]; exact l5
    have c : ¬ pn P ≤ k := by omega
    have e3 := i4 k (Nat.le_refl _) hk
    have b3 := (hR.2.2 k hk).2.2.1
    refine ⟨setI τ (a + 3) k (nI (min 30 (rw_ r k + 1))), ?_, fr_I (by simp) i1, ?_, fun f hf => ?_, fun f hf hf2 => ?_⟩
    · simp (disch := omega) only [fc2_turnToMist_12, qI, qL, qR, pI, pL, pR, ldI_lo, ldB_lo, ldZ, ldL, stI, stB, stZ, stL, dr_setI, dr_setL, dr_setR, arr_setI, arr_setL, arr_setR, aLn_setI, aLn_setL, aLn_setR, mr_setI, mr_setL, mi_setL, mi_setR, ml_setI, ml_setR, mi_eq, mi_ne, ml_eq, ml_ne, mr_eq, mr_ne, bnd, nI_clamp, d0, d3, n2, e5, nI_leI, c, if_true, if_false, ↓reduceIte, and_true, true_and, and_false, false_and, not_true_eq_false, not_false_eq_true, and_self, e3, y1, y30, nI_add, min_N]
    · rw [mi_ne _ _ (by omega)]; exact i2
    · by_cases e : f = k
      · subst e; rw [mi_eq]
      · rw [mi_ne _ _ (by omega)]; exact i3 f (by omega)
    · rw [mi_ne _ _ (by omega)]; exact i4 f (by omega) hf2
/-! hedges -/
def rHedge (r : Rw) (i : Nat) : Rw := (fun f => if f = i then ro r (i + 1) else if f = i + 1 then ro r i else ro r f, fun f => if f = i then rn r (i + 1) else if f = i + 1 then rn r i else rn r f, r.2.2)
theorem ro_hedge (r : Rw) (i f : Nat) : ro (rHedge r i) f = if f = i then ro r (i + 1) else if f = i + 1 then ro r i else ro r f := rfl
theorem rn_hedge (r : Rw) (i f : Nat) : rn (rHedge r i) f = if f = i then rn r (i + 1) else if f = i + 1 then rn r i else rn r f := rfl
def hedgeB (r : Rw) (i : Nat) : Bool := decide (ro r i ≠ ro r (i + 1)) || decide (rn r i ≠ rn r (i + 1))
theorem RwB.hedge {n i : Nat} (h : RwB n r) (hi : i + 1 < n) : RwB n (rHedge r i) := by
  refine ⟨h.1, h.2.1, fun f hf => ?_⟩
  obtain ⟨b1, b2, b3, b4⟩ := h.2.2 f hf
  have p1 := h.2.2 i (by omega)
  have p2 := h.2.2 (i + 1) hi
  refine ⟨?_, ?_, b3, b4⟩
  · show (if f = i then ro r (i + 1) else if f = i + 1 then ro r i else ro r f) ≤ 999
    split
    · exact p2.1
    · split
      · exact p1.1
      · exact b1
  · show (if f = i then rn r (i + 1) else if f = i + 1 then rn r i else rn r f) ≤ 20
    split
    · exact p2.2.1
    · split
      · exact p1.2.1
      · exact b2
theorem isHedge_c (h : Sh σ) (ha : a = 19 ∨ a = 25) (hL : LdC σ a P r) (h6 : pn P ≤ 6) (hR : RwB (pn P) r) {i : Nat} (hi : i + 1 < pn P) : fc2_isHedge N a (nI i) σ = some (if hedgeB r i = true then 1 else 0, σ) := by
  obtain ⟨k0, k1, k2, k3, k4, k5, m0, m1, m2, m3, m4⟩ := h.ldk ha
  obtain ⟨l5, l6, l7, l8, l9, lf⟩ := hL
  obtain ⟨e1, e2, -, -, -⟩ := lf i (by omega)
  obtain ⟨f1, f2, -, -, -⟩ := lf (i + 1) hi
  obtain ⟨b1, b2, -, -⟩ := hR.2.2 i (by omega)
  obtain ⟨d1, d2, -, -⟩ := hR.2.2 (i + 1) hi
  have ha2 : a ≤ 25 := by omega
  have c : ¬ (1 : Int32) = 0 := by decide
  have hE : hedgeB r i = (decide (ro r i ≠ ro r (i + 1)) || decide (rn r i ≠ rn r (i + 1))) := rfl
  rw [hE]
  by_cases c1 : ro r i = ro r (i + 1)
  · by_cases c2 : rn r i = rn r (i + 1)
    · simp (disch := omega) only [fc2_isHedge, k0, bnd, has_y h ha l5 h6 (show i < pn P by omega), has_y h ha l5 h6 hi, nI_1, c, if_true, if_false, ↓reduceIte, and_true, true_and, and_false, false_and, not_true_eq_false, not_false_eq_true, and_self, qR, m0, m1, ldI_lo, k1, k2, nI_clamp, e1, e2, f1, f2, nI_eq, c1, c2, retZ0, ne_eq, decide_false, Bool.or_false, Bool.false_eq_true]
    · simp (disch := omega) only [fc2_isHedge, fc2_isHedge_52, k0, bnd, has_y h ha l5 h6 (show i < pn P by omega), has_y h ha l5 h6 hi, nI_1, c, if_true, if_false, ↓reduceIte, and_true, true_and, and_false, false_and, not_true_eq_false, not_false_eq_true, and_self, qR, m0, m1, ldI_lo, k1, k2, nI_clamp, e1, e2, f1, f2, nI_eq, c1, c2, retZ1, ne_eq, decide_false, decide_true, Bool.false_or]
  · simp (disch := omega) only [fc2_isHedge, fc2_isHedge_52, k0, bnd, has_y h ha l5 h6 (show i < pn P by omega), has_y h ha l5 h6 hi, nI_1, c, if_true, if_false, ↓reduceIte, and_true, true_and, and_false, false_and, not_true_eq_false, not_false_eq_true, and_self, qR, m0, m1, ldI_lo, k1, k2, nI_clamp, e1, e2, f1, f2, nI_eq, c1, retZ1, ne_eq, decide_true, Bool.true_or]
theorem isHedge_n (h : Sh σ) (ha : a = 19 ∨ a = 25) (hL : LdC σ a P r) (h6 : pn P ≤ 6) {x : Int32} (hx : ¬ ∃ i : Nat, i + 1 < pn P ∧ x = nI i) : fc2_isHedge N a x σ = some (0, σ) := by
  obtain ⟨k0, k1, k2, k3, k4, k5, m0, m1, m2, m3, m4⟩ := h.ldk ha
  obtain ⟨l5, -⟩ := hL
  have c : ¬ (1 : Int32) = 0 := by decide
  rcases nix x (n := pn P) (by omega) with q | ⟨i, hi, rfl⟩
  · simp (disch := omega) only [fc2_isHedge, k0, bnd, has_n h ha l5 q, if_true, if_false, ↓reduceIte, and_true, true_and, and_false, false_and, not_true_eq_false, not_false_eq_true, and_self, retZ0]
  · by_cases e : i + 1 < pn P
    · exact absurd ⟨i, e, rfl⟩ hx
    · have q : nI (i + 1) < 0 ∨ nI (pn P) ≤ nI (i + 1) := .inr (nI_le (by omega) (by omega))
      simp (disch := omega) only [fc2_isHedge, k0, bnd, has_y h ha l5 h6 hi, nI_1, has_n h ha l5 q, c, if_true, if_false, ↓reduceIte, and_true, true_and, and_false, false_and, not_true_eq_false, not_false_eq_true, and_self, retZ0]
theorem hedge_c (h : Sh σ) (ha : a = 19 ∨ a = 25) (hL : LdC σ a P r) (h6 : pn P ≤ 6) {i : Nat} (hi : i + 1 < pn P) :
    ∃ σ' : Me, fc2_moveHedge N a (nI i) σ = some ((), σ') ∧ Fr (ldS a) σ σ' ∧ LdC σ' a P (rHedge r i) := by
  obtain ⟨k0, k1, k2, k3, k4, k5, m0, m1, m2, m3, m4⟩ := h.ldk ha
  obtain ⟨l5, l6, l7, l8, l9, lf⟩ := hL
  obtain ⟨e1, e2, -, -, -⟩ := lf i (by omega)
  obtain ⟨f1, f2, -, -, -⟩ := lf (i + 1) hi
  have ha2 : a ≤ 25 := by omega
  refine ⟨setI (setI (setI (setI σ (a + 1) i (nI (ro r (i + 1)))) (a + 1) (i + 1) (nI (ro r i))) (a + 2) i (nI (rn r (i + 1)))) (a + 2) (i + 1) (nI (rn r i)), ?_, ?_, ?_⟩
  · simp (disch := omega) only [fc2_moveHedge, qI, qL, qR, pI, pL, pR, ldI_lo, ldB_lo, ldZ, ldL, stI, stB, stZ, stL, dr_setI, dr_setL, dr_setR, arr_setI, arr_setL, arr_setR, aLn_setI, aLn_setL, aLn_setR, mr_setI, mr_setL, mi_setL, mi_setR, ml_setI, ml_setR, mi_eq, mi_ne, ml_eq, ml_ne, mr_eq, mr_ne, bnd, nI_clamp, k0, k1, k2, m0, m1, nI_1, e1, e2, f1, f2]
  · refine fr_I (by simp [ldS]) (fr_I (by simp [ldS]) (fr_I (by simp [ldS]) (fr_I (by simp [ldS]) (Fr.rf _ _))))
  · refine ⟨?_, ?_, ?_, ?_, ?_, fun f hf => ?_⟩
    · simp (disch := omega) only [mi_ne]; exact l5
    · simp (disch := omega) only [mi_ne]; exact l6
    · simp (disch := omega) only [mi_ne]; exact l7
    · simp (disch := omega) only [mi_ne]; exact l8
    · simp (disch := omega) only [mi_ne]; exact l9
    · obtain ⟨g1, g2, g3, g4, g5⟩ := lf f hf
      by_cases e : f = i
      · subst e
        simp (disch := omega) only [mi_ne, mi_eq, ro_hedge, rn_hedge, if_true, ↓reduceIte]
        exact ⟨trivial, trivial, g3, g4, g5⟩
      · by_cases e2 : f = i + 1
        · subst e2
          simp (disch := omega) only [mi_ne, mi_eq, ro_hedge, rn_hedge, e, if_false, if_true, ↓reduceIte]
          exact ⟨trivial, trivial, g3, g4, g5⟩
        · simp (disch := omega) only [mi_ne, mi_eq, ro_hedge, rn_hedge, e, e2, if_false, if_true, ↓reduceIte]
          exact ⟨g1, g2, g3, g4, g5⟩
/-! the can -/
def rCan (r : Rw) (i : Nat) : Rw := (ro r, rn r, fun f => if f = i then min 30 (rw_ r i + 2) else rw_ r f, fun f => if f = i then rc r i - 3 else rc r f, r.2.2.2.2)
theorem rw_can (r : Rw) (i f : Nat) : rw_ (rCan r i) f = if f = i then min 30 (rw_ r i + 2) else rw_ r f := rfl
theorem rc_can (r : Rw) (i f : Nat) : rc (rCan r i) f = if f = i then rc r i - 3 else rc r f := rfl
def canB (r : Rw) (i : Nat) : Bool := decide (3 ≤ rc r i) && decide (rw_ r i < 30)
theorem RwB.can {n i : Nat} (h : RwB n r) (hi : i < n) : RwB n (rCan r i) := by
  refine ⟨h.1, h.2.1, fun f hf => ?_⟩
  obtain ⟨b1, b2, b3, b4⟩ := h.2.2 f hf
  have p1 := h.2.2 i hi
  refine ⟨b1, b2, ?_, ?_⟩
  · show (if f = i then min 30 (rw_ r i + 2) else rw_ r f) ≤ 30
    split
    · exact Nat.min_le_left _ _
    · exact b3
  · show (if f = i then rc r i - 3 else rc r f) ≤ 999
    split
    · omega
    · exact b4
theorem isCan_c (h : Sh σ) (ha : a = 19 ∨ a = 25) (hL : LdC σ a P r) (h6 : pn P ≤ 6) (hR : RwB (pn P) r) {i : Nat} (hi : i < pn P) : fc2_isCan N a (nI i) σ = some (if canB r i = true then 1 else 0, σ) := by
  obtain ⟨k0, k1, k2, k3, k4, k5, m0, m1, m2, m3, m4⟩ := h.ldk ha
  obtain ⟨l5, l6, l7, l8, l9, lf⟩ := hL
  obtain ⟨-, -, e3, -, e5⟩ := lf i hi
  obtain ⟨-, -, b3, b4⟩ := hR.2.2 i hi
  have ha2 : a ≤ 25 := by omega
  have c : ¬ (1 : Int32) = 0 := by decide
  have hE : canB r i = (decide (3 ≤ rc r i) && decide (rw_ r i < 30)) := rfl
  rw [hE]
  by_cases c1 : rc r i < 3
  · have n1 : ¬ 3 ≤ rc r i := by omega
    simp (disch := omega) only [fc2_isCan, k0, bnd, has_y h ha l5 h6 hi, c, if_true, if_false, ↓reduceIte, and_true, true_and, and_false, false_and, not_true_eq_false, not_false_eq_true, and_self, qR, m2, m4, ldI_lo, k3, k5, nI_clamp, e3, e5, y3, nI_ltI, c1, n1, retZ0, decide_false, Bool.false_and, Bool.false_eq_true]
  · have n1 : 3 ≤ rc r i := by omega
    by_cases c2 : 30 ≤ rw_ r i
    · have n2 : ¬ rw_ r i < 30 := by omega
      simp (disch := omega) only [fc2_isCan, k0, bnd, has_y h ha l5 h6 hi, c, if_true, if_false, ↓reduceIte, and_true, true_and, and_false, false_and, not_true_eq_false, not_false_eq_true, and_self, qR, m2, m4, ldI_lo, k3, k5, nI_clamp, e3, e5, y3, y30, nI_ltI, nI_leI, c1, n1, c2, n2, retZ0, decide_false, decide_true, Bool.and_false, Bool.false_eq_true]
    · have n2 : rw_ r i < 30 := by omega
      simp (disch := omega) only [fc2_isCan, k0, bnd, has_y h ha l5 h6 hi, c, if_true, if_false, ↓reduceIte, and_true, true_and, and_false, false_and, not_true_eq_false, not_false_eq_true, and_self, qR, m2, m4, ldI_lo, k3, k5, nI_clamp, e3, e5, y3, y30, nI_ltI, nI_leI, c1, n1, c2, n2, retZ1, decide_true, Bool.and_true]
theorem isCan_n (h : Sh σ) (ha : a = 19 ∨ a = 25) (hL : LdC σ a P r) (h6 : pn P ≤ 6) {x : Int32} (hx : x < 0 ∨ nI (pn P) ≤ x) : fc2_isCan N a x σ = some (0, σ) := by
  obtain ⟨k0, -⟩ := h.ldk ha
  obtain ⟨l5, -⟩ := hL
  simp (disch := omega) only [fc2_isCan, k0, bnd, has_n h ha l5 hx, if_true, if_false, ↓reduceIte, and_true, true_and, and_false, false_and, not_true_eq_false, not_false_eq_true, and_self, retZ0]
theorem can_c (h : Sh σ) (ha : a = 19 ∨ a = 25) (hL : LdC σ a P r) (h6 : pn P ≤ 6) (hR : RwB (pn P) r) {i : Nat} (hi : i < pn P) (hc : canB r i = true) :
    ∃ σ' : Me, fc2_fillCan N a (nI i) σ = some ((), σ') ∧ Fr (ldS a) σ σ' ∧ LdC σ' a P (rCan r i) := by
  obtain ⟨k0, k1, k2, k3, k4, k5, m0, m1, m2, m3, m4⟩ := h.ldk ha
  obtain ⟨l5, l6, l7, l8, l9, lf⟩ := hL
  obtain ⟨-, -, e3, -, e5⟩ := lf i hi
  obtain ⟨-, -, b3, b4⟩ := hR.2.2 i hi
  simp only [canB, Bool.and_eq_true, decide_eq_true_eq] at hc
  have ha2 : a ≤ 25 := by omega
  have q1 := pk_sub hc.1
  refine ⟨setI (setI σ (a + 5) i (nI (rc r i - 3))) (a + 3) i (nI (min 30 (rw_ r i + 2))), ?_, ?_, ?_⟩
  · simp (disch := omega) only [fc2_fillCan, qI, qL, qR, pI, pL, pR, ldI_lo, ldB_lo, ldZ, ldL, stI, stB, stZ, stL, dr_setI, dr_setL, dr_setR, arr_setI, arr_setL, arr_setR, aLn_setI, aLn_setL, aLn_setR, mr_setI, mr_setL, mi_setL, mi_setR, ml_setI, ml_setR, mi_eq, mi_ne, ml_eq, ml_ne, mr_eq, mr_ne, bnd, nI_clamp, k0, k3, k5, m2, m4, e3, e5, y3, y2, y30, q1, nI_add, min_N]
  · refine fr_I (by simp [ldS]) (fr_I (by simp [ldS]) (Fr.rf _ _))
  · refine ⟨?_, ?_, ?_, ?_, ?_, fun f hf => ?_⟩
    · simp (disch := omega) only [mi_ne]; exact l5
    · simp (disch := omega) only [mi_ne]; exact l6
    · simp (disch := omega) only [mi_ne]; exact l7
    · simp (disch := omega) only [mi_ne]; exact l8
    · simp (disch := omega) only [mi_ne]; exact l9
    · obtain ⟨g1, g2, g3, g4, g5⟩ := lf f hf
      by_cases e : f = i
      · subst e
        simp (disch := omega) only [mi_ne, mi_eq, rw_can, rc_can, if_true, ↓reduceIte]
        exact ⟨g1, g2, trivial, g4, trivial⟩
      · simp (disch := omega) only [mi_ne, mi_eq, rw_can, rc_can, e, if_false, ↓reduceIte]
        exact ⟨g1, g2, g3, g4, g5⟩
end LAND
