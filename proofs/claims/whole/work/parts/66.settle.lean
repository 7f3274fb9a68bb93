def uS (x : Nat) : Nat → Nat → Bool := fun a j => a == x + 1 || a == x + 3 || a == x + 5 || (a == x && j == 9)
theorem uS_f {a : Nat} (ha : a = 19 ∨ a = 25) : Sf (uS a) := by
  rcases ha with rfl | rfl
  · have h : ∀ q ∈ rfL, uS 19 q.1.1 q.1.2 = false := by decide +kernel
    exact h
  · have h : ∀ q ∈ rfL, uS 25 q.1.1 q.1.2 = false := by decide +kernel
    exact h
theorem settle42_c {N : Nat} {σ : Me} (h : Sh σ) {a : Nat} (ha : a = 19 ∨ a = 25) {k u w F c br g s : Nat} (K : Option Nat → Option Nat → Int32 → Me → Option (Unit × Me)) (hk : k < 6) (e3 : mi σ (a + 3) k = nI w) (eF : mi σ 34 k = nI F) (e5 : mi σ (a + 5) k = nI c) (e35 : mi σ 35 k = nI br) (e32 : mi σ 32 k = nI g) (e7 : mi σ 31 7 = nI s) (hw : w ≤ 30) (hF : F ≤ 99) (hu : u ≤ min 30 (w + F)) (hc : c ≤ 999) (hb : br ≤ 270) (hg : g ≤ 999) (hs : s ≤ 99) :
    fc9_settle_42 N K (some 31) (some a) (nI k) (nI u) σ = K (some 31) (some a) (nI (k + 1)) (setI (setI (setI σ (a + 3) k (nI (min 30 (w + F) - u))) (a + 5) k (nI (min 999 (c + br)))) (a + 1) k (nI (min 999 (g + s - F)))) := by
  obtain ⟨k0, k1, k2, k3, k4, k5, m0, m1, m2, m3, m4⟩ := h.ldk ha
  have ha2 : a ≤ 25 := by omega
  have w := wet_c (N := N) h ha hk e3 eF hw hF
  have hsub := pk_sub hu
  have hh := fun σ' : Me => held_sub N (a := g + s) (b := F) (c := 999) σ' (by omega) (by omega) (by omega)
  rw [y0] at hh
  simp (disch := omega) only [fc9_settle_42, qI, qL, qR, pI, pL, pR, ldI_lo, ldB_lo, ldZ, ldL, stI, stB, stZ, stL, dr_setI, dr_setL, dr_setR, arr_setI, arr_setL, arr_setR, aLn_setI, aLn_setL, aLn_setR, mr_setI, mr_setL, mi_setL, mi_setR, ml_setI, ml_setR, mi_eq, mi_ne, ml_eq, ml_ne, mr_eq, mr_ne, bnd, nI_clamp, PS h, k0, k1, k3, k5, m0, m2, m4, w, hsub, e5, e35, e32, e7, eF, y0, y999, nI_add, pk_mul, nI_leI, nI_ltI, nI_eq, dv_n, rm_n, min_N, max_N, hh, nI_1]
theorem settle2_c {N : Nat} {a : Nat} (ha : a = 19 ∨ a = 25) {P : Pl} {r : Rw} {F : Nat → Nat} {s : Nat} (hP : PlB P) (hR : RwB (pn P) r) (hF9 : ∀ f, F f ≤ 99) (hs : s ≤ 99) :
    ∀ (m k fu : Nat) (σ : Me), Sh σ → k + m = pn P → m < fu → mi σ 31 6 = nI (pn P) → mi σ 31 7 = nI s → mi σ 31 8 = nI (bitsF P F (pn P)) → (∀ f, f < pn P → mi σ 32 f = nI (gN P r f) ∧ mi σ 34 f = nI (F f) ∧ mi σ 35 f = nI (brnF P r F f)) →
      mi σ a 9 = nI (rt r) → (∀ f, f < k → mi σ (a + 1) f = nI (ro (yrF P r s F) f) ∧ mi σ (a + 3) f = nI (rw_ (yrF P r s F) f) ∧ mi σ (a + 5) f = nI (rc (yrF P r s F) f)) → (∀ f, k ≤ f → f < pn P → mi σ (a + 2) f = nI (rn r f) ∧ mi σ (a + 3) f = nI (rw_ r f) ∧ mi σ (a + 5) f = nI (rc r f)) →
      ∃ σ' : Me, fc9_settle_2 N fu (some 31) (some a) (nI k) σ = some ((), σ') ∧ Fr (uS a) σ σ' ∧ mi σ' a 9 = nI (rt r + 1) ∧ (∀ f, f < pn P → mi σ' (a + 1) f = nI (ro (yrF P r s F) f) ∧ mi σ' (a + 3) f = nI (rw_ (yrF P r s F) f) ∧ mi σ' (a + 5) f = nI (rc (yrF P r s F) f))
  | _, _, 0, _, _, _, h0, _, _, _, _, _, _, _ => absurd h0 (Nat.not_lt_zero _)
  | 0, k, fu + 1, σ, h, hk, _, h6, h7, h8, hsk, h9, hlo, hhi => by
    have b6 := hP.1
    have e : k = pn P := by omega
    have c : pn P ≤ k := by omega
    have ht := hR.2.1
    obtain ⟨k0, -⟩ := h.ldk ha
    refine ⟨setI σ a 9 (nI (rt r + 1)), ?_, (Fr.rf _ σ).setI _ (by simp [uS]), mi_eq _ _ _ _, fun f hf => ?_⟩
    · simp (disch := omega) only [fc9_settle_2, qI, qL, qR, pI, pL, pR, ldI_lo, ldB_lo, ldZ, ldL, stI, stB, stZ, stL, dr_setI, dr_setL, dr_setR, arr_setI, arr_setL, arr_setR, aLn_setI, aLn_setL, aLn_setR, mr_setI, mr_setL, mi_setL, mi_setR, ml_setI, ml_setR, mi_eq, mi_ne, ml_eq, ml_ne, mr_eq, mr_ne, bnd, nI_clamp, PS h, h6, nI_add, pk_mul, nI_leI, nI_ltI, nI_eq, dv_n, rm_n, min_N, max_N, c, if_true, if_false, ↓reduceIte, and_true, true_and, and_false, false_and, not_true_eq_false, not_false_eq_true, and_self, k0, h9, nI_1]
    · simp (disch := omega) only [mi_ne]
      exact hlo f (by omega)
  | m + 1, k, fu + 1, σ, h, hk, h0, h6, h7, h8, hsk, h9, hlo, hhi => by
    have b6 := hP.1
    have c : ¬ pn P ≤ k := by omega
    have hkn : k < pn P := by omega
    have hk6 : k < 6 := by omega
    have ha2 : a ≤ 25 := by omega
    obtain ⟨b1, b2, b3, b4⟩ := hR.2.2 k hkn
    have b5 := hP.2.2.2.2 k hkn
    obtain ⟨e2, e3, e5⟩ := hhi k (Nat.le_refl _) hkn
    obtain ⟨s1, s2, s3⟩ := hsk k hkn
    have hFk := hF9 k
    have hbr := brn_le (P := P) (r := r) (F := F) (f := k) b5
    have hg := g_le P r k
    have hbit := bit_at _ (bits_lt P F (pn P) b6) k hk6
    rw [bits_has P F (pn P) b6 k hkn] at hbit
    have hst : Fr (uS a) σ (setI (setI (setI σ (a + 3) k (nI (rw_ (yrF P r s F) k))) (a + 5) k (nI (rc (yrF P r s F) k))) (a + 1) k (nI (ro (yrF P r s F) k))) := (((Fr.rf _ σ).setI _ (by simp [uS])).setI _ (by simp [uS])).setI _ (by simp [uS])
    have i1 : ∀ j, uS a 31 j = false := fun j => by
      simp only [uS, Bool.or_eq_false_iff, Bool.and_eq_false_iff, beq_eq_false_iff_ne]; omega
    have i2 : ∀ j, uS a 32 j = false := fun j => by
      simp only [uS, Bool.or_eq_false_iff, Bool.and_eq_false_iff, beq_eq_false_iff_ne]; omega
    have i3 : ∀ j, uS a 34 j = false := fun j => by
      simp only [uS, Bool.or_eq_false_iff, Bool.and_eq_false_iff, beq_eq_false_iff_ne]; omega
    have i4 : ∀ j, uS a 35 j = false := fun j => by
      simp only [uS, Bool.or_eq_false_iff, Bool.and_eq_false_iff, beq_eq_false_iff_ne]; omega
    obtain ⟨σ2, z1, z2, z3⟩ := settle2_c ha hP hR hF9 hs m (k + 1) fu _ (hst.sh (uS_f ha) h) (by omega) (by omega) (by rw [hst.i (i1 _)]; exact h6) (by rw [hst.i (i1 _)]; exact h7) (by rw [hst.i (i1 _)]; exact h8) (fun f hf => by rw [hst.i (i2 _), hst.i (i3 _), hst.i (i4 _)]; exact hsk f hf)
      (by simp (disch := omega) only [mi_ne]; exact h9)
      (fun f hf => by
        by_cases e : f = k
        · subst e
          exact ⟨by simp (disch := omega) only [mi_ne, mi_eq], by simp (disch := omega) only [mi_ne, mi_eq], by simp (disch := omega) only [mi_ne, mi_eq]⟩
        · simp (disch := omega) only [mi_ne]
          exact hlo f (by omega))
      (fun f hf hf2 => by
        simp (disch := omega) only [mi_ne]
        exact hhi f (by omega) hf2)
    refine ⟨σ2, ?_, hst.tr z2, z3⟩
    by_cases hc : F k < pdr P
    · have hu := usedUp_c (N := N) h ha hk6 e2 e3 s2 b2 b3 hFk
      have h42 := settle42_c (N := N) h ha (fc9_settle_2 N fu) (u := min (rn r k) (min 30 (rw_ r k + F k))) hk6 e3 s2 e5 s3 s1 h7 b3 hFk (Nat.min_le_right _ _) b4 hbr hg hs
      rw [if_pos hc] at hbit
      simp (disch := omega) only [fc9_settle_2, fc9_settle_27, qI, qL, qR, pI, pL, pR, ldI_lo, ldB_lo, ldZ, ldL, stI, stB, stZ, stL, dr_setI, dr_setL, dr_setR, arr_setI, arr_setL, arr_setR, aLn_setI, aLn_setL, aLn_setR, mr_setI, mr_setL, mi_setL, mi_setR, ml_setI, ml_setR, mi_eq, mi_ne, ml_eq, ml_ne, mr_eq, mr_ne, bnd, nI_clamp, PS h, h6, nI_add, pk_mul, nI_leI, nI_ltI, nI_eq, dv_n, rm_n, min_N, max_N, c, if_true, if_false, ↓reduceIte, and_true, true_and, and_false, false_and, not_true_eq_false, not_false_eq_true, and_self, h8, hbit]
      rw [if_neg (show ¬ nI 0 = (1 : Int32) by decide)]
      rw [hu, bnd, h42]
      have e : rw_ (yrF P r s F) k = min 30 (rw_ r k + F k) - min (rn r k) (min 30 (rw_ r k + F k)) := by
        show wetF r F k - (if F k < pdr P then min (rn r k) (wetF r F k) else 0) = _
        rw [if_pos hc]; rfl
      rw [e] at z1
      exact z1
    · have h42 := settle42_c (N := N) h ha (fc9_settle_2 N fu) (u := 0) hk6 e3 s2 e5 s3 s1 h7 b3 hFk (Nat.zero_le _) b4 hbr hg hs
      rw [if_neg hc] at hbit
      simp (disch := omega) only [fc9_settle_2, fc9_settle_27, qI, qL, qR, pI, pL, pR, ldI_lo, ldB_lo, ldZ, ldL, stI, stB, stZ, stL, dr_setI, dr_setL, dr_setR, arr_setI, arr_setL, arr_setR, aLn_setI, aLn_setL, aLn_setR, mr_setI, mr_setL, mi_setL, mi_setR, ml_setI, ml_setR, mi_eq, mi_ne, ml_eq, ml_ne, mr_eq, mr_ne, bnd, nI_clamp, PS h, h6, nI_add, pk_mul, nI_leI, nI_ltI, nI_eq, dv_n, rm_n, min_N, max_N, c, if_true, if_false, ↓reduceIte, and_true, true_and, and_false, false_and, not_true_eq_false, not_false_eq_true, and_self, h8, hbit]
      rw [if_pos (show nI 1 = (1 : Int32) from rfl), if_neg (show ¬ (1 : Int32) = 0 by decide)]
      rw [y0, h42]
      have e : rw_ (yrF P r s F) k = min 30 (rw_ r k + F k) - 0 := by
        show wetF r F k - (if F k < pdr P then min (rn r k) (wetF r F k) else 0) = _
        rw [if_neg hc]; rfl
      rw [e] at z1
      exact z1
theorem settle_c {N : Nat} {σ : Me} (h : Sh σ) {a : Nat} (ha : a = 19 ∨ a = 25) {P : Pl} {r : Rw} {q : PF} {rain : Nat} (hL : LdC σ a P r) (hP : PlB P) (hR : RwB (pn P) r) (hk : LkC σ P q r rain) (hr : rain ≤ 99) (hN : 10 ≤ N) :
    ∃ σ' : Me, fc9_settle N 31 (some a) σ = some ((), σ') ∧ Fr (uS a) σ σ' ∧ LdC σ' a P (yrY P q r rain) := by
  obtain ⟨l5, l6, l7, l8, l9, lf⟩ := id hL
  obtain ⟨h6, h7, h8, -, hsk⟩ := hk
  have b6 := hP.1
  obtain ⟨σ2, z1, z2, z3, z4⟩ := settle2_c (N := N) (s := rain / pn P) (F := falY P q r rain) ha hP hR (fun f => Nat.le_trans (falY_le _ _ _ _ _) hr) (Nat.le_trans (Nat.div_le_self _ _) hr) (pn P) 0 N σ h (by omega) (by omega) h6 h7 h8 hsk l9 (fun f hf => absurd hf (Nat.not_lt_zero _)) (fun f _ hf => ⟨(lf f hf).2.1, (lf f hf).2.2.1, (lf f hf).2.2.2.2⟩)
  have i1 : ∀ j, j ≠ 9 → uS a a j = false := fun j hj => by
    simp only [uS, Bool.or_eq_false_iff, Bool.and_eq_false_iff, beq_eq_false_iff_ne]; omega
  have i2 : ∀ j, uS a (a + 2) j = false := fun j => by
    simp only [uS, Bool.or_eq_false_iff, Bool.and_eq_false_iff, beq_eq_false_iff_ne]; omega
  have i4 : ∀ j, uS a (a + 4) j = false := fun j => by
    simp only [uS, Bool.or_eq_false_iff, Bool.and_eq_false_iff, beq_eq_false_iff_ne]; omega
  refine ⟨σ2, z1, z2, by rw [z2.i (i1 _ (by decide))]; exact l5, by rw [z2.i (i1 _ (by decide))]; exact l6, by rw [z2.i (i1 _ (by decide))]; exact l7, by rw [z2.i (i1 _ (by decide))]; exact l8, z3, fun f hf => ⟨(z4 f hf).1, ?_, (z4 f hf).2.1, ?_, (z4 f hf).2.2⟩⟩
  · rw [z2.i (i2 _)]; exact (lf f hf).2.1
  · rw [z2.i (i4 _)]; exact (lf f hf).2.2.2.1
