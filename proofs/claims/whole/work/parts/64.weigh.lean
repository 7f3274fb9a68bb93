/-- a land's own cells -/
def Ldk (σ : Me) (a : Nat) : Prop := dr σ (some a) (.inl 2) = some a ∧ (∀ k, k < 6 → arr σ .int (some (a + 1)) (nI k) = some (a + 1)) ∧ (∀ k, k < 6 → arr σ .int (some (a + 2)) (nI k) = some (a + 2)) ∧ (∀ k, k < 6 → arr σ .int (some (a + 3)) (nI k) = some (a + 3)) ∧ (∀ k, k < 6 → arr σ .int (some (a + 4)) (nI k) = some (a + 4)) ∧ (∀ k, k < 6 → arr σ .int (some (a + 5)) (nI k) = some (a + 5)) ∧ mr σ a 0 = some (a + 1) ∧ mr σ a 1 = some (a + 2) ∧ mr σ a 2 = some (a + 3) ∧ mr σ a 3 = some (a + 4) ∧ mr σ a 4 = some (a + 5)
theorem Sh.ldk {σ : Me} (h : Sh σ) {a : Nat} (ha : a = 19 ∨ a = 25) : Ldk σ a := by
  rcases ha with rfl | rfl
  · exact ⟨h.dr 19 (by decide) rfl, h.ar 20 6 (by decide) rfl (by decide), h.ar 21 6 (by decide) rfl (by decide), h.ar 22 6 (by decide) rfl (by decide), h.ar 23 6 (by decide) rfl (by decide), h.ar 24 6 (by decide) rfl (by decide), h.rf 19 0 20 (by decide), h.rf 19 1 21 (by decide), h.rf 19 2 22 (by decide), h.rf 19 3 23 (by decide), h.rf 19 4 24 (by decide)⟩
  · exact ⟨h.dr 25 (by decide) rfl, h.ar 26 6 (by decide) rfl (by decide), h.ar 27 6 (by decide) rfl (by decide), h.ar 28 6 (by decide) rfl (by decide), h.ar 29 6 (by decide) rfl (by decide), h.ar 30 6 (by decide) rfl (by decide), h.rf 25 0 26 (by decide), h.rf 25 1 27 (by decide), h.rf 25 2 28 (by decide), h.rf 25 3 29 (by decide), h.rf 25 4 30 (by decide)⟩
/-- what weighing one field writes -/
def wS (b f : Nat) : Nat → Nat → Bool := fun a j => (a == 32 && j == f) || (a == 33 && j == f) || a == 36 || (decide (85 ≤ a) && a == b)
theorem wS_s {b f : Nat} {a j : Nat} (h : sS b a j = false) : wS b f a j = false := by
  simp only [sS, wS, Bool.or_eq_false_iff, Bool.and_eq_false_iff, decide_eq_false_iff_not, beq_eq_false_iff_ne] at h ⊢
  omega
theorem weigh_c {N : Nat} {σ : Me} (h : Sh σ) {a : Nat} (ha : a = 19 ∨ a = 25) {P : Pl} {r : Rw} {q : PF} {b s f : Nat} (hL : LdC σ a P r) (hP : PlB P) (hR : RwB (pn P) r) (hp : PdC N σ b q) (hf : f < pn P) (hs : mi σ 31 7 = nI s) (hs9 : s ≤ 49) (hq : QB q) :
    ∃ σ' d, fc9_weigh N 31 (some a) (nI f) σ = some ((), σ') ∧ Fr (wS b f) σ σ' ∧ mi σ' 32 f = nI (gN P r f) ∧ mi σ' 33 f = nI d ∧ Deq d (dN P q r s f) ∧ d ≤ 1000 := by
  obtain ⟨k0, k1, k2, k3, k4, k5, m0, m1, m2, m3, m4⟩ := h.ldk ha
  obtain ⟨l5, l6, l7, l8, l9, lf⟩ := hL
  obtain ⟨e1, e2, e3, e4, e5⟩ := lf f hf
  obtain ⟨b1, b2, b3, b4⟩ := hR.2.2 f hf
  have b5 := hP.2.2.2.2 f hf
  have b6 := hP.1
  have w := wi_c (N := N) h ha l6 hP.2.1 b1
  have hg := g_le P r f
  have eg : wiN (pin P) (ro r f) = gN P r f := rfl
  rw [eg] at w
  have ha2 : a ≤ 25 := by omega
  rcases hp with ⟨p1, p2⟩ | ⟨la, p1, p2, p3⟩
  · refine ⟨setI (setI σ 32 f (nI (gN P r f))) 33 f (nI (s + gN P r f / 2)), s + gN P r f / 2, ?_, ?_, ?_, ?_, ?_, ?_⟩
    · simp (disch := omega) only [fc9_weigh, qI, qL, qR, pI, pL, pR, ldI_lo, ldB_lo, ldZ, ldL, stI, stB, stZ, stL, dr_setI, dr_setL, dr_setR, arr_setI, arr_setL, arr_setR, aLn_setI, aLn_setL, aLn_setR, mr_setI, mr_setL, mi_setL, mi_setR, ml_setI, ml_setR, mi_eq, mi_ne, ml_eq, ml_ne, mr_eq, mr_ne, bnd, nI_clamp, PS h, k0, k1, m0, e1, w, p1, hs, y2, nI_add, pk_mul, nI_leI, nI_ltI, nI_eq, dv_n, rm_n, min_N, max_N, if_true, if_false, ↓reduceIte, and_true, true_and, and_false, false_and, not_true_eq_false, not_false_eq_true, and_self]
    · exact ((Fr.rf _ σ).setI _ (by simp [wS])).setI _ (by simp [wS])
    · simp (disch := omega) only [mi_ne, mi_eq]
    · rw [mi_eq]
    · unfold dN Deq
      rw [p2 _ _ _ _ _ _ hg]
      omega
    · omega
  · have hF : Fr (sS b) σ (setI (setI (setI (setI (setI (setI (setI σ 32 f (nI (gN P r f))) 36 0 (nI (gN P r f))) 36 1 (nI (rn r f))) 36 2 (nI (rw_ r f))) 36 3 (nI (pvl P f))) 36 4 (nI s)) 36 5 (nI (rt r))) :=
      (((((((Fr.rf _ σ).setI _ rfl).setI _ rfl).setI _ rfl).setI _ rfl).setI _ rfl).setI _ rfl).setI _ rfl
    have hF2 : Fr (wS b f) σ (setI (setI (setI (setI (setI (setI (setI σ 32 f (nI (gN P r f))) 36 0 (nI (gN P r f))) 36 1 (nI (rn r f))) 36 2 (nI (rw_ r f))) 36 3 (nI (pvl P f))) 36 4 (nI s)) 36 5 (nI (rt r))) :=
      (((((((Fr.rf _ σ).setI _ (by simp [wS])).setI _ (by simp [wS])).setI _ (by simp [wS])).setI _ (by simp [wS])).setI _ (by simp [wS])).setI _ (by simp [wS])).setI _ (by simp [wS])
    obtain ⟨x, τ', q1, q2, q3⟩ := p3 _ hF (gN P r f) (rn r f) (rw_ r f) (pvl P f) s (rt r) hg b2 b3 b5 hs9 hR.2.1 (by simp (disch := omega) only [mi_ne, mi_eq]) (by simp (disch := omega) only [mi_ne, mi_eq]) (by simp (disch := omega) only [mi_ne, mi_eq]) (by simp (disch := omega) only [mi_ne, mi_eq]) (by simp (disch := omega) only [mi_ne, mi_eq]) (by simp (disch := omega) only [mi_ne, mi_eq])
    have a1 : arr τ' .int (some 33) (nI f) = some 33 := by
      rw [Fr_a q2, Fr_a hF]; exact h.ar 33 6 (by decide) rfl (by decide) f (by omega)
    refine ⟨setI τ' 33 f (nI (dN P q r s f)), dN P q r s f, ?_, ?_, ?_, ?_, .inl rfl, ?_⟩
    · have c : ¬ (some la = none) := by simp
      simp (disch := omega) only [fc9_weigh, qI, qL, qR, pI, pL, pR, ldI_lo, ldB_lo, ldZ, ldL, stI, stB, stZ, stL, dr_setI, dr_setL, dr_setR, arr_setI, arr_setL, arr_setR, aLn_setI, aLn_setL, aLn_setR, mr_setI, mr_setL, mi_setL, mi_setR, ml_setI, ml_setR, mi_eq, mi_ne, ml_eq, ml_ne, mr_eq, mr_ne, bnd, nI_clamp, PS h, k0, k1, k2, k3, k4, m0, m1, m2, m3, e1, e2, e3, e4, w, p1, p2, hs, l9, c, y0, y1, y2, y3, y4, y5, y99, nI_add, pk_mul, nI_leI, nI_ltI, nI_eq, dv_n, rm_n, min_N, max_N, if_true, if_false, ↓reduceIte, and_true, true_and, and_false, false_and, not_true_eq_false, not_false_eq_true, and_self]
      rw [q1, bnd]
      simp only [q3, bnd]
      simp (disch := omega) only [qI, qL, qR, pI, pL, pR, ldI_lo, ldB_lo, ldZ, ldL, stI, stB, stZ, stL, dr_setI, dr_setL, dr_setR, arr_setI, arr_setL, arr_setR, aLn_setI, aLn_setL, aLn_setR, mr_setI, mr_setL, mi_setL, mi_setR, ml_setI, ml_setR, mi_eq, mi_ne, ml_eq, ml_ne, mr_eq, mr_ne, bnd, nI_clamp, a1, nI_add, pk_mul, nI_leI, nI_ltI, nI_eq, dv_n, rm_n, min_N, max_N]
      rfl
    · refine Fr.setI (hF2.tr (q2.mono (fun a j e => ?_))) _ (by simp [wS])
      simp only [kS, wS, Bool.or_eq_false_iff] at e ⊢
      exact e.2
    · rw [mi_ne _ _ (by omega), q2.i rfl]
      simp (disch := omega) only [mi_ne, mi_eq]
    · rw [mi_eq]
    · have := hq (gN P r f) (rn r f) (rw_ r f) (pvl P f) s (rt r)
      unfold dN
      omega

/-- what weighing all writes -/
def aS (b : Nat) : Nat → Nat → Bool := fun a j => (a == 31 && (j == 6 || j == 7)) || a == 32 || a == 33 || a == 36 || (decide (85 ≤ a) && a == b)
theorem aS_s {b : Nat} {a j : Nat} (h : sS b a j = false) : aS b a j = false := by
  simp only [sS, aS, Bool.or_eq_false_iff, Bool.and_eq_false_iff, decide_eq_false_iff_not, beq_eq_false_iff_ne] at h ⊢
  omega
theorem aS_w {b f : Nat} {a j : Nat} (h : aS b a j = false) : wS b f a j = false := by
  simp only [aS, wS, Bool.or_eq_false_iff, Bool.and_eq_false_iff, decide_eq_false_iff_not, beq_eq_false_iff_ne] at h ⊢
  omega
theorem lo_s {b a : Nat} (ha : a = 19 ∨ a = 25) (j : Nat) : sS b a j = false ∧ sS b (a + 1) j = false ∧ sS b (a + 2) j = false ∧ sS b (a + 3) j = false ∧ sS b (a + 4) j = false ∧ sS b (a + 5) j = false := by
  simp only [sS, Bool.or_eq_false_iff, Bool.and_eq_false_iff, decide_eq_false_iff_not, beq_eq_false_iff_ne]
  omega
theorem weighAll31_c {N : Nat} {a : Nat} (ha : a = 19 ∨ a = 25) {P : Pl} {r : Rw} {q : PF} {b s : Nat} (hP : PlB P) (hR : RwB (pn P) r) (hs9 : s ≤ 49) (hq : QB q) :
    ∀ (m k fu : Nat) (σ : Me) (d : Nat → Nat), Sh σ → LdC σ a P r → PdC N σ b q → mi σ 31 6 = nI (pn P) → mi σ 31 7 = nI s → k + m = pn P → m < fu →
      (∀ f, f < k → mi σ 32 f = nI (gN P r f) ∧ mi σ 33 f = nI (d f) ∧ Deq (d f) (dN P q r s f) ∧ d f ≤ 1000) →
      ∃ (σ' : Me) (d' : Nat → Nat), fc9_weighAll_31 N fu (some 31) (some a) (nI k) σ = some ((), σ') ∧ Fr (aS b) σ σ' ∧ mi σ' 31 6 = nI (pn P) ∧ mi σ' 31 7 = nI s ∧ (∀ f, f < pn P → mi σ' 32 f = nI (gN P r f) ∧ mi σ' 33 f = nI (d' f) ∧ Deq (d' f) (dN P q r s f) ∧ d' f ≤ 1000)
  | _, _, 0, _, _, _, _, _, _, _, _, h0, _ => absurd h0 (Nat.not_lt_zero _)
  | 0, k, fu + 1, σ, d, h, hL, hp, h6, h7, hk, _, hd => by
    have b6 := hP.1
    have e : k = pn P := by omega
    refine ⟨σ, d, ?_, Fr.rf _ _, h6, h7, fun f hf => hd f (by omega)⟩
    have c : pn P ≤ k := by omega
    simp (disch := omega) only [fc9_weighAll_31, qI, qL, qR, pI, pL, pR, ldI_lo, ldB_lo, ldZ, ldL, stI, stB, stZ, stL, dr_setI, dr_setL, dr_setR, arr_setI, arr_setL, arr_setR, aLn_setI, aLn_setL, aLn_setR, mr_setI, mr_setL, mi_setL, mi_setR, ml_setI, ml_setR, mi_eq, mi_ne, ml_eq, ml_ne, mr_eq, mr_ne, bnd, nI_clamp, PS h, h6, nI_add, pk_mul, nI_leI, nI_ltI, nI_eq, dv_n, rm_n, min_N, max_N, c, if_true, if_false, ↓reduceIte, and_true, true_and, and_false, false_and, not_true_eq_false, not_false_eq_true, and_self]
  | m + 1, k, fu + 1, σ, d, h, hL, hp, h6, h7, hk, h0, hd => by
    have b6 := hP.1
    have c : ¬ pn P ≤ k := by omega
    obtain ⟨σ', x, w1, w2, w3, w4, w5, w6⟩ := weigh_c h ha hL hP hR hp (show k < pn P by omega) h7 hs9 hq
    have w2s : Fr (sS b) σ σ' := w2.mono (fun a j e => wS_s e)
    obtain ⟨σ2, d2, z1, z2, z3⟩ := weighAll31_c ha hP hR hs9 hq m (k + 1) fu σ' (fun f => if f = k then x else d f) (w2s.sh (sS_f b) h) (hL.fr w2s (lo_s ha)) (hp.fr w2s) (by rw [w2.i rfl]; exact h6) (by rw [w2.i rfl]; exact h7) (by omega) (by omega) (fun f hf => by
      by_cases e : f = k
      · subst e
        simp only [if_true]
        exact ⟨w3, w4, w5, w6⟩
      · have h1 : wS b k 32 f = false := by simp [wS, e]
        have h2 : wS b k 33 f = false := by simp [wS, e]
        rw [w2.i h1, w2.i h2]
        simp only [e, if_false]
        exact hd f (by omega))
    refine ⟨σ2, d2, ?_, (w2.mono (fun a j e => aS_w e)).tr z2, z3⟩
    simp (disch := omega) only [fc9_weighAll_31, qI, qL, qR, pI, pL, pR, ldI_lo, ldB_lo, ldZ, ldL, stI, stB, stZ, stL, dr_setI, dr_setL, dr_setR, arr_setI, arr_setL, arr_setR, aLn_setI, aLn_setL, aLn_setR, mr_setI, mr_setL, mi_setL, mi_setR, ml_setI, ml_setR, mi_eq, mi_ne, ml_eq, ml_ne, mr_eq, mr_ne, bnd, nI_clamp, PS h, h6, nI_add, pk_mul, nI_leI, nI_ltI, nI_eq, dv_n, rm_n, min_N, max_N, c, if_true, if_false, ↓reduceIte, and_true, true_and, and_false, false_and, not_true_eq_false, not_false_eq_true, and_self, w1, nI_1]
    exact z1
theorem weighAll_c {N : Nat} {σ : Me} (h : Sh σ) {a : Nat} (ha : a = 19 ∨ a = 25) {P : Pl} {r : Rw} {q : PF} {b rain : Nat} (hL : LdC σ a P r) (hP : PlB P) (hR : RwB (pn P) r) (hp : PdC N σ b q) (hq : QB q) (h2 : 2 ≤ pn P) (hr : rain ≤ 99) (hN : 10 ≤ N) :
    ∃ (σ' : Me) (d : Nat → Nat), fc9_weighAll N 31 (some a) (nI rain) σ = some ((), σ') ∧ Fr (aS b) σ σ' ∧ mi σ' 31 6 = nI (pn P) ∧ mi σ' 31 7 = nI (rain / pn P) ∧ (∀ f, f < pn P → mi σ' 32 f = nI (gN P r f) ∧ mi σ' 33 f = nI (d f) ∧ Deq (d f) (dN P q r (rain / pn P) f) ∧ d f ≤ 1000) := by
  have b6 := hP.1
  have b7 : rain / pn P ≤ rain / 2 := Nat.div_le_div_left h2 (by decide)
  have hF : Fr (aS b) σ (setI (setI σ 31 6 (nI (pn P))) 31 7 (nI (rain / pn P))) := ((Fr.rf _ σ).setI _ rfl).setI _ rfl
  have hFs : Fr (sS b) σ (setI (setI σ 31 6 (nI (pn P))) 31 7 (nI (rain / pn P))) := ((Fr.rf _ σ).setI _ rfl).setI _ rfl
  obtain ⟨σ2, d2, z1, z2, z3⟩ := weighAll31_c (N := N) (s := rain / pn P) ha hP hR (by omega) hq (pn P) 0 N _ (fun _ => 0) (hFs.sh (sS_f b) h) (hL.fr hFs (lo_s ha)) (hp.fr hFs) (by simp (disch := omega) only [mi_ne, mi_eq]) (mi_eq _ _ _ _) (by omega) (by omega) (fun f hf => absurd hf (Nat.not_lt_zero _))
  refine ⟨σ2, d2, ?_, hF.tr z2, z3⟩
  obtain ⟨k0, -⟩ := h.ldk ha
  have c : ¬ pn P = 0 := by omega
  simp (disch := omega) only [fc9_weighAll, fc9_weighAll_26, qI, qL, qR, pI, pL, pR, ldI_lo, ldB_lo, ldZ, ldL, stI, stB, stZ, stL, dr_setI, dr_setL, dr_setR, arr_setI, arr_setL, arr_setR, aLn_setI, aLn_setL, aLn_setR, mr_setI, mr_setL, mi_setL, mi_setR, ml_setI, ml_setR, mi_eq, mi_ne, ml_eq, ml_ne, mr_eq, mr_ne, bnd, nI_clamp, PS h, k0, hL.1, y0, nI_add, pk_mul, nI_leI, nI_ltI, nI_eq, dv_n, rm_n, min_N, max_N, c, if_true, if_false, ↓reduceIte, and_true, true_and, and_false, false_and, not_true_eq_false, not_false_eq_true, and_self]
  exact z1
