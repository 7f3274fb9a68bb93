/-! single acts on a row of the reference -/
section MA
variable {N : Nat} {σ : Me} {w : Nat} {P : Pl} {r : Rw}
theorem in1_20_y {j : Nat} (h1 : 1 ≤ j) (h2 : j ≤ 20) : fc12_isIn N (Int32.toInt64 (nI j)) 1 20 σ = some (1, σ) := isIn_y (a := 1) (b := 20) (lo := 1) (hi := 20) rfl rfl h1 h2 (by decide)
theorem in1_20_n {x : Int32} (hx : ¬ ∃ j : Nat, 1 ≤ j ∧ j ≤ 20 ∧ x = nI j) : fc12_isIn N (Int32.toInt64 x) 1 20 σ = some (0, σ) := isIn_n (a := 1) (b := 20) (lo := 1) (hi := 20) rfl rfl (by decide) hx
theorem in0_2_y {j : Nat} (h1 : 0 ≤ j) (h2 : j ≤ 2) : fc12_isIn N (Int32.toInt64 (nI j)) 0 2 σ = some (1, σ) := isIn_y (a := 0) (b := 2) (lo := 0) (hi := 2) rfl rfl h1 h2 (by decide)
theorem in0_2_n {x : Int32} (hx : ¬ ∃ j : Nat, 0 ≤ j ∧ j ≤ 2 ∧ x = nI j) : fc12_isIn N (Int32.toInt64 x) 0 2 σ = some (0, σ) := isIn_n (a := 0) (b := 2) (lo := 0) (hi := 2) rfl rfl (by decide) hx
theorem in0_1_y {j : Nat} (h1 : 0 ≤ j) (h2 : j ≤ 1) : fc12_isIn N (Int32.toInt64 (nI j)) 0 1 σ = some (1, σ) := isIn_y (a := 0) (b := 1) (lo := 0) (hi := 1) rfl rfl h1 h2 (by decide)
theorem in0_1_n {x : Int32} (hx : ¬ ∃ j : Nat, 0 ≤ j ∧ j ≤ 1 ∧ x = nI j) : fc12_isIn N (Int32.toInt64 x) 0 1 σ = some (0, σ) := isIn_n (a := 0) (b := 1) (lo := 0) (hi := 1) rfl rfl (by decide) hx
theorem in0_30_y {j : Nat} (h1 : 0 ≤ j) (h2 : j ≤ 30) : fc12_isIn N (Int32.toInt64 (nI j)) 0 30 σ = some (1, σ) := isIn_y (a := 0) (b := 30) (lo := 0) (hi := 30) rfl rfl h1 h2 (by decide)
theorem in0_30_n {x : Int32} (hx : ¬ ∃ j : Nat, 0 ≤ j ∧ j ≤ 30 ∧ x = nI j) : fc12_isIn N (Int32.toInt64 x) 0 30 σ = some (0, σ) := isIn_n (a := 0) (b := 30) (lo := 0) (hi := 30) rfl rfl (by decide) hx
theorem in0_99_y {j : Nat} (h1 : 0 ≤ j) (h2 : j ≤ 99) : fc12_isIn N (Int32.toInt64 (nI j)) 0 99 σ = some (1, σ) := isIn_y (a := 0) (b := 99) (lo := 0) (hi := 99) rfl rfl h1 h2 (by decide)
theorem in0_99_n {x : Int32} (hx : ¬ ∃ j : Nat, 0 ≤ j ∧ j ≤ 99 ∧ x = nI j) : fc12_isIn N (Int32.toInt64 x) 0 99 σ = some (0, σ) := isIn_n (a := 0) (b := 99) (lo := 0) (hi := 99) rfl rfl (by decide) hx
theorem in0_9_y {j : Nat} (h1 : 0 ≤ j) (h2 : j ≤ 9) : fc12_isIn N (Int32.toInt64 (nI j)) 0 9 σ = some (1, σ) := isIn_y (a := 0) (b := 9) (lo := 0) (hi := 9) rfl rfl h1 h2 (by decide)
theorem in0_9_n {x : Int32} (hx : ¬ ∃ j : Nat, 0 ≤ j ∧ j ≤ 9 ∧ x = nI j) : fc12_isIn N (Int32.toInt64 x) 0 9 σ = some (0, σ) := isIn_n (a := 0) (b := 9) (lo := 0) (hi := 9) rfl rfl (by decide) hx
theorem in0_999_y {j : Nat} (h1 : 0 ≤ j) (h2 : j ≤ 999) : fc12_isIn N (Int32.toInt64 (nI j)) 0 999 σ = some (1, σ) := isIn_y (a := 0) (b := 999) (lo := 0) (hi := 999) rfl rfl h1 h2 (by decide)
theorem in0_999_n {x : Int32} (hx : ¬ ∃ j : Nat, 0 ≤ j ∧ j ≤ 999 ∧ x = nI j) : fc12_isIn N (Int32.toInt64 x) 0 999 σ = some (0, σ) := isIn_n (a := 0) (b := 999) (lo := 0) (hi := 999) rfl rfl (by decide) hx
theorem in0_5_y {j : Nat} (h1 : 0 ≤ j) (h2 : j ≤ 5) : fc12_isIn N (Int32.toInt64 (nI j)) 0 5 σ = some (1, σ) := isIn_y (a := 0) (b := 5) (lo := 0) (hi := 5) rfl rfl h1 h2 (by decide)
theorem in0_5_n {x : Int32} (hx : ¬ ∃ j : Nat, 0 ≤ j ∧ j ≤ 5 ∧ x = nI j) : fc12_isIn N (Int32.toInt64 x) 0 5 σ = some (0, σ) := isIn_n (a := 0) (b := 5) (lo := 0) (hi := 5) rfl rfl (by decide) hx
theorem in0_4_y {j : Nat} (h1 : 0 ≤ j) (h2 : j ≤ 4) : fc12_isIn N (Int32.toInt64 (nI j)) 0 4 σ = some (1, σ) := isIn_y (a := 0) (b := 4) (lo := 0) (hi := 4) rfl rfl h1 h2 (by decide)
theorem in0_4_n {x : Int32} (hx : ¬ ∃ j : Nat, 0 ≤ j ∧ j ≤ 4 ∧ x = nI j) : fc12_isIn N (Int32.toInt64 x) 0 4 σ = some (0, σ) := isIn_n (a := 0) (b := 4) (lo := 0) (hi := 4) rfl rfl (by decide) hx
theorem in1_60_y {j : Nat} (h1 : 1 ≤ j) (h2 : j ≤ 60) : fc12_isIn N (Int32.toInt64 (nI j)) 1 60 σ = some (1, σ) := isIn_y (a := 1) (b := 60) (lo := 1) (hi := 60) rfl rfl h1 h2 (by decide)
theorem in1_60_n {x : Int32} (hx : ¬ ∃ j : Nat, 1 ≤ j ∧ j ≤ 60 ∧ x = nI j) : fc12_isIn N (Int32.toInt64 x) 1 60 σ = some (0, σ) := isIn_n (a := 1) (b := 60) (lo := 1) (hi := 60) rfl rfl (by decide) hx
theorem canSell_y (h : Sh σ) (hw : w = 71 ∨ w = 72) (hP : PlM σ P) (hL : RwM σ w (pn P) r) (h6 : pn P ≤ 6) (hR : RwB (pn P) r) {i j m : Nat} (hi : i < pn P) (hj : j < pn P) (hij : i ≠ j) (hm : m ≤ 20) : fc12_canSell N 60 (some w) (nI i) (nI j) (nI m) σ = some (if saleB r i j m = true then 1 else 0, σ) := by
  have kw := h.w hw
  have hw2 : w ≤ 72 := by omega
  obtain ⟨e1, -, -, e4⟩ := hL.2.2 i hi
  obtain ⟨-, -, -, f4⟩ := hL.2.2 j hj
  have e24 := hL.1
  obtain ⟨b1, -, -, b4⟩ := hR.2.2 i hi
  obtain ⟨-, -, -, d4⟩ := hR.2.2 j hj
  have hs := sale_m hR hm
  have cc : ¬ (1 : Int32) = 0 := by decide
  have hE : ∀ x : Nat, x = m * rp r → saleB r i j m = (decide (m ≤ ro r i) && decide (x ≤ rc r j) && decide (rc r i + x ≤ 999)) := fun x e => by subst e; rfl
  rw [hE _ rfl]
  generalize hx : m * rp r = x at hs
  by_cases c1 : m ≤ ro r i
  · by_cases c2 : rc r j < x
    · have n2 : ¬ x ≤ rc r j := by omega
      simp (disch := omega) only [fc12_canSell, PN h, bnd, mfield_y h hP.1 h6 hi, mfield_y h hP.1 h6 hj, cc, nI_eq, hij, if_true, if_false, ↓reduceIte, and_true, true_and, and_false, false_and, not_true_eq_false, not_false_eq_true, and_self, i4, ip0, ip3, y24, ldI_lo, kw, nI_clamp, e1, e4, f4, e24, pk_mul, hx, nI_leI, nI_ltI, c1, c2, n2, decide_false, decide_true, Bool.false_and, Bool.and_false, Bool.true_and, Bool.false_eq_true, retZ0]
    · have n2 : x ≤ rc r j := by omega
      by_cases c3 : 999 < rc r i + x
      · have n3 : ¬ rc r i + x ≤ 999 := by omega
        simp (disch := omega) only [fc12_canSell, PN h, bnd, mfield_y h hP.1 h6 hi, mfield_y h hP.1 h6 hj, cc, nI_eq, hij, if_true, if_false, ↓reduceIte, and_true, true_and, and_false, false_and, not_true_eq_false, not_false_eq_true, and_self, i4, ip0, ip3, y24, y999, ldI_lo, kw, nI_clamp, e1, e4, f4, e24, pk_mul, nI_add, hx, nI_leI, nI_ltI, c1, c2, c3, n2, n3, decide_false, decide_true, Bool.false_and, Bool.and_false, Bool.true_and, Bool.false_eq_true, retZ0]
      · have n3 : rc r i + x ≤ 999 := by omega
        simp (disch := omega) only [fc12_canSell, PN h, bnd, mfield_y h hP.1 h6 hi, mfield_y h hP.1 h6 hj, cc, nI_eq, hij, if_true, if_false, ↓reduceIte, and_true, true_and, and_false, false_and, not_true_eq_false, not_false_eq_true, and_self, i4, ip0, ip3, y24, y999, ldI_lo, kw, nI_clamp, e1, e4, f4, e24, pk_mul, nI_add, hx, nI_leI, nI_ltI, c1, c2, c3, n2, n3, decide_false, decide_true, Bool.false_and, Bool.and_false, Bool.true_and, Bool.false_eq_true, retZ1]
  · simp (disch := omega) only [fc12_canSell, PN h, bnd, mfield_y h hP.1 h6 hi, mfield_y h hP.1 h6 hj, cc, nI_eq, hij, if_true, if_false, ↓reduceIte, and_true, true_and, and_false, false_and, not_true_eq_false, not_false_eq_true, and_self, i4, ip0, ldI_lo, kw, nI_clamp, e1, nI_leI, c1, decide_false, Bool.false_and, Bool.false_eq_true, retZ0]
theorem canSell_n (h : Sh σ) (hP : PlM σ P) (h6 : pn P ≤ 6) {x y z : Int32} (hx : ¬ ∃ i j : Nat, i < pn P ∧ j < pn P ∧ i ≠ j ∧ x = nI i ∧ y = nI j) : fc12_canSell N 60 (some w) x y z σ = some (0, σ) := by
  have cc : ¬ (1 : Int32) = 0 := by decide
  rcases nix x (n := pn P) (by omega) with q | ⟨i, hi, rfl⟩
  · simp (disch := omega) only [fc12_canSell, PN h, bnd, mfield_n h hP.1 q, if_true, if_false, ↓reduceIte, and_true, true_and, and_false, false_and, not_true_eq_false, not_false_eq_true, and_self, retZ0]
  · rcases nix y (n := pn P) (by omega) with q | ⟨j, hj, rfl⟩
    · simp (disch := omega) only [fc12_canSell, PN h, bnd, mfield_y h hP.1 h6 hi, mfield_n h hP.1 q, cc, if_true, if_false, ↓reduceIte, and_true, true_and, and_false, false_and, not_true_eq_false, not_false_eq_true, and_self, retZ0]
    · have e : i = j := by
        rcases Nat.decEq i j with e | e
        · exact absurd ⟨i, j, hi, hj, e, rfl, rfl⟩ hx
        · exact e
      subst e
      simp (disch := omega) only [fc12_canSell, PN h, bnd, mfield_y h hP.1 h6 hi, cc, if_true, if_false, ↓reduceIte, and_true, true_and, and_false, false_and, not_true_eq_false, not_false_eq_true, and_self, retZ0]
theorem sells_m (h : Sh σ) (hw : w = 71 ∨ w = 72) (hL : RwM σ w (pn P) r) (h6 : pn P ≤ 6) (hR : RwB (pn P) r) {i j m : Nat} (hi : i < pn P) (hj : j < pn P) (hij : i ≠ j) (hm : m ≤ 20) (hs : saleB r i j m = true) :
    ∃ σ' : Me, fc12_sells N (some w) (nI i) (nI j) (nI m) σ = some ((), σ') ∧ Fr (rS w) σ σ' ∧ RwM σ' w (pn P) (rSell r i j m) := by
  have kw := h.w hw
  have hw2 : w ≤ 72 := by omega
  obtain ⟨l1, l2, lf⟩ := hL
  obtain ⟨e1, -, -, e4⟩ := lf i hi
  obtain ⟨f1, -, -, f4⟩ := lf j hj
  obtain ⟨b1, -, -, b4⟩ := hR.2.2 i hi
  obtain ⟨d1, -, -, d4⟩ := hR.2.2 j hj
  obtain ⟨s1, s2, s3⟩ := saleB_y hs
  have hsm := sale_m hR hm
  have q1 := pk_sub s1
  have q2 := pk_sub s2
  have hji : j ≠ i := fun e => hij e.symm
  refine ⟨setI (setI (setI (setI σ w (4 * i) (nI (ro r i - m))) w (4 * j) (nI (min 999 (ro r j + m)))) w (4 * i + 3) (nI (rc r i + m * rp r))) w (4 * j + 3) (nI (rc r j - m * rp r)), ?_, ?_, ?_⟩
  · simp (disch := omega) only [fc12_sells, qI, qL, qR, pI, pL, pR, ldI_lo, ldB_lo, ldZ, ldL, stI, stB, stZ, stL, dr_setI, dr_setL, dr_setR, arr_setI, arr_setL, arr_setR, aLn_setI, aLn_setL, aLn_setR, mr_setI, mr_setL, mi_setL, mi_setR, ml_setI, ml_setR, mi_eq, mi_ne, ml_eq, ml_ne, mr_eq, mr_ne, bnd, nI_clamp, kw, l1, i4, ip0, ip3, y24, e1, e4, f1, f4, q1, q2, y999, nI_add, pk_mul, min_N]
  · refine fr_I (by simp [rS] <;> omega) (fr_I (by simp [rS] <;> omega) (fr_I (by simp [rS] <;> omega) (fr_I (by simp [rS] <;> omega) (Fr.rf _ _))))
  · refine ⟨?_, ?_, fun f hf => ?_⟩
    · simp (disch := omega) only [mi_ne]; exact l1
    · simp (disch := omega) only [mi_ne]; exact l2
    · obtain ⟨g1, g2, g3, g4⟩ := lf f hf
      by_cases e : f = j
      · subst e
        simp (disch := omega) only [mi_ne, mi_eq, ro_sell, rc_sell, if_true, ↓reduceIte]
        exact ⟨trivial, g2, g3, trivial⟩
      · by_cases e2 : f = i
        · subst e2
          simp (disch := omega) only [mi_ne, mi_eq, ro_sell, rc_sell, e, if_false, if_true, ↓reduceIte]
          exact ⟨trivial, g2, g3, trivial⟩
        · simp (disch := omega) only [mi_ne, mi_eq, ro_sell, rc_sell, e, e2, if_false, if_true, ↓reduceIte]
          exact ⟨g1, g2, g3, g4⟩
theorem canForgive_y (h : Sh σ) (hw : w = 71 ∨ w = 72) (hP : PlM σ P) (hL : RwM σ w (pn P) r) (h6 : pn P ≤ 6) (hR : RwB (pn P) r) {i m : Nat} (hi : i < pn P) (h1 : 1 ≤ m) (hm : m ≤ 20) (hs : m ≤ ro r i) : fc12_canForgive N 60 (some w) (nI i) (nI m) σ = some (1, σ) := by
  have kw := h.w hw
  have hw2 : w ≤ 72 := by omega
  obtain ⟨e1, -, -, -⟩ := hL.2.2 i hi
  obtain ⟨b1, -, -, b4⟩ := hR.2.2 i hi
  have cc : ¬ (1 : Int32) = 0 := by decide
  have c1 : ¬ ro r i < m := by omega
  simp (disch := omega) only [fc12_canForgive, PN h, bnd, mfield_y h hP.1 h6 hi, in1_20_y h1 hm, cc, if_true, if_false, ↓reduceIte, and_true, true_and, and_false, false_and, not_true_eq_false, not_false_eq_true, and_self, i4, ip0, ldI_lo, kw, nI_clamp, e1, nI_ltI, c1, retZ1]
theorem canForgive_n (h : Sh σ) (hw : w = 71 ∨ w = 72) (hP : PlM σ P) (hL : RwM σ w (pn P) r) (h6 : pn P ≤ 6) (hR : RwB (pn P) r) {x y : Int32} (hx : ¬ ∃ i m : Nat, i < pn P ∧ 1 ≤ m ∧ m ≤ 20 ∧ m ≤ ro r i ∧ x = nI i ∧ y = nI m) : fc12_canForgive N 60 (some w) x y σ = some (0, σ) := by
  have kw := h.w hw
  have hw2 : w ≤ 72 := by omega
  have cc : ¬ (1 : Int32) = 0 := by decide
  rcases nix x (n := pn P) (by omega) with q | ⟨i, hi, rfl⟩
  · simp (disch := omega) only [fc12_canForgive, PN h, bnd, mfield_n h hP.1 q, if_true, if_false, ↓reduceIte, and_true, true_and, and_false, false_and, not_true_eq_false, not_false_eq_true, and_self, retZ0]
  · by_cases hy : ∃ j : Nat, 1 ≤ j ∧ j ≤ 20 ∧ y = nI j
    · obtain ⟨m, h1, hm, rfl⟩ := hy
      obtain ⟨e1, -, -, -⟩ := hL.2.2 i hi
      obtain ⟨b1, -, -, b4⟩ := hR.2.2 i hi
      by_cases c1 : ro r i < m
      · simp (disch := omega) only [fc12_canForgive, PN h, bnd, mfield_y h hP.1 h6 hi, in1_20_y h1 hm, cc, if_true, if_false, ↓reduceIte, and_true, true_and, and_false, false_and, not_true_eq_false, not_false_eq_true, and_self, i4, ip0, ldI_lo, kw, nI_clamp, e1, nI_ltI, c1, retZ0]
      · exact absurd ⟨i, m, hi, h1, hm, by omega, rfl, rfl⟩ hx
    · simp (disch := omega) only [fc12_canForgive, PN h, bnd, mfield_y h hP.1 h6 hi, in1_20_n hy, cc, if_true, if_false, ↓reduceIte, and_true, true_and, and_false, false_and, not_true_eq_false, not_false_eq_true, and_self, retZ0]
theorem forgives_m (h : Sh σ) (hw : w = 71 ∨ w = 72) (hP : PlM σ P) (hL : RwM σ w (pn P) r) (h6 : pn P ≤ 6) (hR : RwB (pn P) r) {i m : Nat} (hi : i < pn P) (hs : m ≤ ro r i) (hN : 10 ≤ N) :
    ∃ σ' : Me, fc12_forgives N 60 (some w) (nI i) (nI m) σ = some ((), σ') ∧ Fr (rS w) σ σ' ∧ RwM σ' w (pn P) (rMist r i m) := by
  have kw := h.w hw
  have hw2 : 71 ≤ w ∧ w ≤ 72 := by omega
  obtain ⟨l1, l2, lf⟩ := hL
  obtain ⟨e1, -, -, -⟩ := lf i hi
  have q1 := pk_sub hs
  have x1 : fc12_forgives N 60 (some w) (nI i) (nI m) σ = fc12_forgives_14 N N (some 60) (some w) (nI 0) (setI σ w (4 * i) (nI (ro r i - m))) := by
    simp (disch := omega) only [fc12_forgives, qI, qL, qR, pI, pL, pR, ldI_lo, ldB_lo, ldZ, ldL, stI, stB, stZ, stL, dr_setI, dr_setL, dr_setR, arr_setI, arr_setL, arr_setR, aLn_setI, aLn_setL, aLn_setR, mr_setI, mr_setL, mi_setL, mi_setR, ml_setI, ml_setR, mi_eq, mi_ne, ml_eq, ml_ne, mr_eq, mr_ne, bnd, nI_clamp, kw, i4, ip0, e1, q1]
    rfl
  rw [x1]
  refine lp (fun fu k τ => fc12_forgives_14 N fu (some 60) (some w) (nI k) τ) (fun k τ => Fr (rS w) σ τ ∧ mi τ w 24 = nI (rp r) ∧ mi τ w 25 = nI (rt r) ∧ (∀ f, f < pn P → mi τ w (4 * f) = nI (if f = i then ro r i - m else ro r f) ∧ mi τ w (4 * f + 1) = nI (rn r f) ∧ mi τ w (4 * f + 2) = nI (if f < k then min 30 (rw_ r f + 1) else rw_ r f) ∧ mi τ w (4 * f + 3) = nI (rc r f))) (fun o => ∃ σ' : Me, o = some ((), σ') ∧ Fr (rS w) σ σ' ∧ RwM σ' w (pn P) (rMist r i m)) (pn P) ?_ ?_ (pn P) 0 N _ (by omega) (by omega) ⟨fr_I (by simp [rS] <;> omega) (Fr.rf _ _), by rw [mi_ne _ _ (by omega)]; exact l1, by rw [mi_ne _ _ (by omega)]; exact l2, fun f hf => ?_⟩
  · rintro fu τ ⟨i1, i2, i3, i4'⟩
    have hτ := i1.sh (rS_f hw) h
    have e24 : mi τ 60 24 = nI (pn P) := by rw [i1.i (by simp [rS] <;> omega)]; exact hP.1
    have c : pn P ≤ pn P := Nat.le_refl _
    refine ⟨τ, ?_, i1, i2, i3, fun f hf => ?_⟩
    · simp (disch := omega) only [fc12_forgives_14, qI, PN hτ, bnd, e24, nI_leI, c, if_true, if_false, ↓reduceIte, and_true, true_and, and_false, false_and, not_true_eq_false, not_false_eq_true, and_self]
    · obtain ⟨g1, g2, g3, g4⟩ := i4' f hf
      rw [if_pos hf] at g3
      exact ⟨g1, g2, g3, g4⟩
  · rintro fu k τ hk ⟨i1, i2, i3, i4'⟩
    have hτ := i1.sh (rS_f hw) h
    have kt := hτ.w hw
    have e24 : mi τ 60 24 = nI (pn P) := by rw [i1.i (by simp [rS] <;> omega)]; exact hP.1
    have c : ¬ pn P ≤ k := by omega
    obtain ⟨-, -, e3, -⟩ := i4' k hk
    rw [if_neg (Nat.lt_irrefl k)] at e3
    have b3 := (hR.2.2 k hk).2.2.1
    refine .inl ⟨setI τ w (4 * k + 2) (nI (min 30 (rw_ r k + 1))), ?_, fr_I (by simp [rS] <;> omega) i1, by rw [mi_ne _ _ (by omega)]; exact i2, by rw [mi_ne _ _ (by omega)]; exact i3, fun f hf => ?_⟩
    · simp (disch := omega) only [fc12_forgives_14, qI, qL, qR, pI, pL, pR, ldI_lo, ldB_lo, ldZ, ldL, stI, stB, stZ, stL, dr_setI, dr_setL, dr_setR, arr_setI, arr_setL, arr_setR, aLn_setI, aLn_setL, aLn_setR, mr_setI, mr_setL, mi_setL, mi_setR, ml_setI, ml_setR, mi_eq, mi_ne, ml_eq, ml_ne, mr_eq, mr_ne, bnd, nI_clamp, PN hτ, kt, e24, nI_leI, c, if_true, if_false, ↓reduceIte, and_true, true_and, and_false, false_and, not_true_eq_false, not_false_eq_true, and_self, i4, ip2, e3, nI_1, y30, min_N]
    · obtain ⟨g1, g2, g3, g4⟩ := i4' f hf
      rw [mi_ne _ _ (by omega), mi_ne _ _ (by omega), mi_ne (i := 4 * k + 2) (j := 4 * f + 3) _ _ (by omega)]
      refine ⟨g1, g2, ?_, g4⟩
      by_cases e : f = k
      · subst e; rw [mi_eq, if_pos (by omega)]
      · rw [mi_ne _ _ (by omega), g3]
        by_cases q : f < k
        · rw [if_pos q, if_pos (by omega)]
        · rw [if_neg q, if_neg (by omega)]
  · obtain ⟨g1, g2, g3, g4⟩ := lf f hf
    rw [mi_ne (i := 4 * i) (j := 4 * f + 1) _ _ (by omega), mi_ne (i := 4 * i) (j := 4 * f + 2) _ _ (by omega), mi_ne (i := 4 * i) (j := 4 * f + 3) _ _ (by omega), if_neg (Nat.not_lt_zero f)]
    refine ⟨?_, g2, g3, g4⟩
    by_cases e : f = i
    · subst e; rw [mi_eq, if_pos rfl]
    · rw [mi_ne _ _ (by omega), if_neg e]; exact g1
theorem canHedge_y (h : Sh σ) (hw : w = 71 ∨ w = 72) (hP : PlM σ P) (hL : RwM σ w (pn P) r) (h6 : pn P ≤ 6) (hR : RwB (pn P) r) {i : Nat} (hi : i + 1 < pn P) : fc12_canHedge N 60 (some w) (nI i) σ = some (if hedgeB r i = true then 1 else 0, σ) := by
  have kw := h.w hw
  have hw2 : w ≤ 72 := by omega
  obtain ⟨e1, e2, -, -⟩ := hL.2.2 i (by omega)
  obtain ⟨f1, f2, -, -⟩ := hL.2.2 (i + 1) hi
  obtain ⟨b1, b2, -, -⟩ := hR.2.2 i (by omega)
  obtain ⟨d1, d2, -, -⟩ := hR.2.2 (i + 1) hi
  have u1 : 4 * (i + 1) = 4 * i + 4 := by omega
  rw [u1] at f1 f2
  have cc : ¬ (1 : Int32) = 0 := by decide
  have hE : hedgeB r i = (decide (ro r i ≠ ro r (i + 1)) || decide (rn r i ≠ rn r (i + 1))) := rfl
  have c0 : ¬ i + 1 = pn P := by omega
  rw [hE]
  by_cases c1 : ro r i = ro r (i + 1)
  · by_cases c2 : rn r i = rn r (i + 1)
    · simp (disch := omega) only [fc12_canHedge, PN h, bnd, mfield_y h hP.1 h6 (show i < pn P by omega), cc, qI, hP.1, nI_1, c0, if_true, if_false, ↓reduceIte, and_true, true_and, and_false, false_and, not_true_eq_false, not_false_eq_true, and_self, i4, ip0, ip4, ldI_lo, kw, nI_clamp, e1, e2, f1, f2, nI_eq, c1, c2, retZ0, ne_eq, decide_false, Bool.or_false, Bool.false_eq_true]
    · simp (disch := omega) only [fc12_canHedge, fc12_canHedge_58, PN h, bnd, mfield_y h hP.1 h6 (show i < pn P by omega), cc, qI, hP.1, nI_1, c0, if_true, if_false, ↓reduceIte, and_true, true_and, and_false, false_and, not_true_eq_false, not_false_eq_true, and_self, i4, ip0, ip4, ldI_lo, kw, nI_clamp, e1, e2, f1, f2, nI_eq, c1, c2, retZ1, ne_eq, decide_false, decide_true, Bool.false_or]
  · simp (disch := omega) only [fc12_canHedge, fc12_canHedge_58, PN h, bnd, mfield_y h hP.1 h6 (show i < pn P by omega), cc, qI, hP.1, nI_1, c0, if_true, if_false, ↓reduceIte, and_true, true_and, and_false, false_and, not_true_eq_false, not_false_eq_true, and_self, i4, ip0, ip4, ldI_lo, kw, nI_clamp, e1, e2, f1, f2, nI_eq, c1, retZ1, ne_eq, decide_true, Bool.true_or]
theorem canHedge_n (h : Sh σ) (hP : PlM σ P) (h6 : pn P ≤ 6) {x : Int32} (hx : ¬ ∃ i : Nat, i + 1 < pn P ∧ x = nI i) : fc12_canHedge N 60 (some w) x σ = some (0, σ) := by
  have cc : ¬ (1 : Int32) = 0 := by decide
  rcases nix x (n := pn P) (by omega) with q | ⟨i, hi, rfl⟩
  · simp (disch := omega) only [fc12_canHedge, PN h, bnd, mfield_n h hP.1 q, if_true, if_false, ↓reduceIte, and_true, true_and, and_false, false_and, not_true_eq_false, not_false_eq_true, and_self, retZ0]
  · have e : i + 1 = pn P := by
      rcases Nat.lt_or_ge (i + 1) (pn P) with e | e
      · exact absurd ⟨i, e, rfl⟩ hx
      · omega
    simp (disch := omega) only [fc12_canHedge, PN h, bnd, mfield_y h hP.1 h6 hi, cc, qI, hP.1, nI_1, e, if_true, if_false, ↓reduceIte, and_true, true_and, and_false, false_and, not_true_eq_false, not_false_eq_true, and_self, retZ0]
theorem hedges_m (h : Sh σ) (hw : w = 71 ∨ w = 72) (hL : RwM σ w (pn P) r) (h6 : pn P ≤ 6) {i : Nat} (hi : i + 1 < pn P) (hN : 10 ≤ N) :
    ∃ σ' : Me, fc12_hedges N (some w) (nI i) σ = some ((), σ') ∧ Fr (rS w) σ σ' ∧ RwM σ' w (pn P) (rHedge r i) := by
  have kw := h.w hw
  have hw2 : w ≤ 72 := by omega
  obtain ⟨l1, l2, lf⟩ := hL
  obtain ⟨e1, e2, -, -⟩ := lf i (by omega)
  obtain ⟨f1, f2, -, -⟩ := lf (i + 1) hi
  have u1 : 4 * (i + 1) = 4 * i + 4 := by omega
  rw [u1] at f1 f2
  refine ⟨setI (setI (setI (setI σ w (4 * i) (nI (ro r (i + 1)))) w (4 * i + 4) (nI (ro r i))) w (4 * i + 1) (nI (rn r (i + 1)))) w (4 * i + 4 + 1) (nI (rn r i)), ?_, ?_, ?_⟩
  · obtain ⟨N', rfl⟩ : ∃ N', N = N' + 3 := ⟨N - 3, by omega⟩
    have x1 : fc12_hedges (N' + 3) (some w) (nI i) σ = fc12_hedges_2 (N' + 3) (N' + 3) (some w) (nI i) (nI 0) σ := rfl
    have c0 : ¬ 2 ≤ 0 := by decide
    have c1 : ¬ 2 ≤ 0 + 1 := by decide
    have c2 : 2 ≤ 0 + 1 + 1 := by decide
    rw [x1, fc12_hedges_2]
    simp (disch := omega) only [qI, qL, qR, pI, pL, pR, ldI_lo, ldB_lo, ldZ, ldL, stI, stB, stZ, stL, dr_setI, dr_setL, dr_setR, arr_setI, arr_setL, arr_setR, aLn_setI, aLn_setL, aLn_setR, mr_setI, mr_setL, mi_setL, mi_setR, ml_setI, ml_setR, mi_eq, mi_ne, ml_eq, ml_ne, mr_eq, mr_ne, bnd, nI_clamp, kw, y2, nI_leI, c0, if_true, if_false, ↓reduceIte, and_true, true_and, and_false, false_and, not_true_eq_false, not_false_eq_true, and_self, i4, ip4, nI_add, nI_1, Nat.add_zero, e1, f1]
    rw [fc12_hedges_2]
    simp (disch := omega) only [qI, qL, qR, pI, pL, pR, ldI_lo, ldB_lo, ldZ, ldL, stI, stB, stZ, stL, dr_setI, dr_setL, dr_setR, arr_setI, arr_setL, arr_setR, aLn_setI, aLn_setL, aLn_setR, mr_setI, mr_setL, mi_setL, mi_setR, ml_setI, ml_setR, mi_eq, mi_ne, ml_eq, ml_ne, mr_eq, mr_ne, bnd, nI_clamp, kw, y2, nI_leI, c1, if_true, if_false, ↓reduceIte, and_true, true_and, and_false, false_and, not_true_eq_false, not_false_eq_true, and_self, i4, ip4, nI_add, nI_1, Nat.add_zero, Nat.zero_add, e2, f2]
    rw [fc12_hedges_2]
    simp (disch := omega) only [y2, nI_leI, Nat.le_refl, Nat.reduceAdd, if_true, if_false, ↓reduceIte, and_true, true_and, and_false, false_and, not_true_eq_false, not_false_eq_true, and_self]
  · refine fr_I (by simp [rS] <;> omega) (fr_I (by simp [rS] <;> omega) (fr_I (by simp [rS] <;> omega) (fr_I (by simp [rS] <;> omega) (Fr.rf _ _))))
  · refine ⟨?_, ?_, fun f hf => ?_⟩
    · simp (disch := omega) only [mi_ne]; exact l1
    · simp (disch := omega) only [mi_ne]; exact l2
    · obtain ⟨g1, g2, g3, g4⟩ := lf f hf
      by_cases e : f = i
      · subst e
        simp (disch := omega) only [mi_ne, mi_eq, ro_hedge, rn_hedge, if_true, ↓reduceIte]
        exact ⟨trivial, trivial, g3, g4⟩
      · by_cases e2 : f = i + 1
        · subst e2
          rw [u1] at g3 g4 ⊢
          simp (disch := omega) only [mi_ne, mi_eq, ro_hedge, rn_hedge, e, if_false, if_true, ↓reduceIte]
          exact ⟨trivial, trivial, g3, g4⟩
        · simp (disch := omega) only [mi_ne, mi_eq, ro_hedge, rn_hedge, e, e2, if_false, if_true, ↓reduceIte]
          exact ⟨g1, g2, g3, g4⟩
theorem canFill_y (h : Sh σ) (hw : w = 71 ∨ w = 72) (hP : PlM σ P) (hL : RwM σ w (pn P) r) (h6 : pn P ≤ 6) (hR : RwB (pn P) r) {i : Nat} (hi : i < pn P) : fc12_canFill N 60 (some w) (nI i) σ = some (if canB r i = true then 1 else 0, σ) := by
  have kw := h.w hw
  have hw2 : w ≤ 72 := by omega
  obtain ⟨-, -, e3, e4⟩ := hL.2.2 i hi
  obtain ⟨-, -, b3, b4⟩ := hR.2.2 i hi
  have cc : ¬ (1 : Int32) = 0 := by decide
  have hE : canB r i = (decide (3 ≤ rc r i) && decide (rw_ r i < 30)) := rfl
  rw [hE]
  by_cases c1 : rc r i < 3
  · have n1 : ¬ 3 ≤ rc r i := by omega
    simp (disch := omega) only [fc12_canFill, PN h, bnd, mfield_y h hP.1 h6 hi, cc, if_true, if_false, ↓reduceIte, and_true, true_and, and_false, false_and, not_true_eq_false, not_false_eq_true, and_self, i4, ip3, y3, nI_add, ldI_lo, kw, nI_clamp, e4, nI_ltI, c1, n1, decide_false, Bool.false_and, Bool.false_eq_true, retZ0]
  · have n1 : 3 ≤ rc r i := by omega
    by_cases c2 : 30 ≤ rw_ r i
    · have n2 : ¬ rw_ r i < 30 := by omega
      simp (disch := omega) only [fc12_canFill, PN h, bnd, mfield_y h hP.1 h6 hi, cc, if_true, if_false, ↓reduceIte, and_true, true_and, and_false, false_and, not_true_eq_false, not_false_eq_true, and_self, i4, ip2, y3, y30, nI_add, ldI_lo, kw, nI_clamp, e3, e4, nI_ltI, nI_leI, c1, c2, n1, n2, decide_false, decide_true, Bool.true_and, Bool.false_eq_true, retZ0]
    · have n2 : rw_ r i < 30 := by omega
      simp (disch := omega) only [fc12_canFill, PN h, bnd, mfield_y h hP.1 h6 hi, cc, if_true, if_false, ↓reduceIte, and_true, true_and, and_false, false_and, not_true_eq_false, not_false_eq_true, and_self, i4, ip2, y3, y30, nI_add, ldI_lo, kw, nI_clamp, e3, e4, nI_ltI, nI_leI, c1, c2, n1, n2, decide_true, Bool.true_and, retZ1]
theorem canFill_n (h : Sh σ) (hP : PlM σ P) {x : Int32} (hx : x < 0 ∨ nI (pn P) ≤ x) : fc12_canFill N 60 (some w) x σ = some (0, σ) := by
  simp (disch := omega) only [fc12_canFill, PN h, bnd, mfield_n h hP.1 hx, if_true, if_false, ↓reduceIte, and_true, true_and, and_false, false_and, not_true_eq_false, not_false_eq_true, and_self, retZ0]
theorem canB_y {i : Nat} (h : canB r i = true) : 3 ≤ rc r i ∧ rw_ r i < 30 := by
  simp only [canB, Bool.and_eq_true, decide_eq_true_eq] at h
  exact h
theorem fills_m (h : Sh σ) (hw : w = 71 ∨ w = 72) (hL : RwM σ w (pn P) r) (h6 : pn P ≤ 6) (hR : RwB (pn P) r) {i : Nat} (hi : i < pn P) (hc : canB r i = true) :
    ∃ σ' : Me, fc12_fills N (some w) (nI i) σ = some ((), σ') ∧ Fr (rS w) σ σ' ∧ RwM σ' w (pn P) (rCan r i) := by
  have kw := h.w hw
  have hw2 : w ≤ 72 := by omega
  obtain ⟨l1, l2, lf⟩ := hL
  obtain ⟨-, -, e3, e4⟩ := lf i hi
  obtain ⟨-, -, b3, b4⟩ := hR.2.2 i hi
  obtain ⟨c1, c2⟩ := canB_y hc
  have q1 := pk_sub c1
  refine ⟨setI (setI σ w (4 * i + 3) (nI (rc r i - 3))) w (4 * i + 2) (nI (min 30 (rw_ r i + 2))), ?_, ?_, ?_⟩
  · simp (disch := omega) only [fc12_fills, qI, qL, qR, pI, pL, pR, ldI_lo, ldB_lo, ldZ, ldL, stI, stB, stZ, stL, dr_setI, dr_setL, dr_setR, arr_setI, arr_setL, arr_setR, aLn_setI, aLn_setL, aLn_setR, mr_setI, mr_setL, mi_setL, mi_setR, ml_setI, ml_setR, mi_eq, mi_ne, ml_eq, ml_ne, mr_eq, mr_ne, bnd, nI_clamp, kw, i4, y3, y2, y30, nI_add, e3, e4, q1, min_N]
  · refine fr_I (by simp [rS] <;> omega) (fr_I (by simp [rS] <;> omega) (Fr.rf _ _))
  · refine ⟨?_, ?_, fun f hf => ?_⟩
    · simp (disch := omega) only [mi_ne]; exact l1
    · simp (disch := omega) only [mi_ne]; exact l2
    · obtain ⟨g1, g2, g3, g4⟩ := lf f hf
      by_cases e : f = i
      · subst e
        simp (disch := omega) only [mi_ne, mi_eq, rw_can, rc_can, if_true, ↓reduceIte]
        exact ⟨g1, g2, trivial, trivial⟩
      · simp (disch := omega) only [mi_ne, mi_eq, rw_can, rc_can, e, if_false, if_true, ↓reduceIte]
        exact ⟨g1, g2, g3, g4⟩
end MA
