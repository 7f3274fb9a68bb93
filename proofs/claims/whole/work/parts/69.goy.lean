def iS (w : Nat) : Nat → Nat → Bool := fun a j => a == w && decide (j < 24) && decide (j % 4 = 0)
def fS : Nat → Nat → Bool := fun a j => oS a j || a == 75
theorem iS_f {w : Nat} (hw : w = 71 ∨ w = 72) : Sf (iS w) := by
  rcases hw with rfl | rfl
  · have h : ∀ q ∈ rfL, iS 71 q.1.1 q.1.2 = false := by decide +kernel
    exact h
  · have h : ∀ q ∈ rfL, iS 72 q.1.1 q.1.2 = false := by decide +kernel
    exact h
theorem fS_f : Sf fS := by
  have h : ∀ q ∈ rfL, fS q.1.1 q.1.2 = false := by decide +kernel
  exact h
theorem iS_j {w : Nat} (hw : w = 71 ∨ w = 72) {a j : Nat} (h : jS a j = false) : iS w a j = false := by
  simp only [jS, iS, Bool.or_eq_false_iff, Bool.and_eq_false_iff, decide_eq_false_iff_not, beq_eq_false_iff_ne] at h ⊢
  omega
theorem goYear2_m {N : Nat} {w : Nat} (hw : w = 71 ∨ w = 72) {P : Pl} {r : Rw} {rain : Nat} (hB : PlB P) (hRB : RwB (pn P) r) (h2 : 2 ≤ pn P) (hr : rain ≤ 99) :
    ∀ (m k fu : Nat) (σ : Me), Sh σ → PlM σ P → k + m = pn P → m < fu → (∀ f, f < k → mi σ w (4 * f) = nI (gN P r f)) → (∀ f, k ≤ f → f < pn P → mi σ w (4 * f) = nI (ro r f)) →
      ∃ σ' : Me, fc12_goYear_2 N fu (some 60) (some w) (nI rain) (nI k) σ = fc12_goYear_50 N N (some 60) (some w) (nI rain) (nI (rain / pn P)) (nI rain) (nI 0) (nI 0) σ' ∧ Fr (iS w) σ σ' ∧ ∀ f, f < pn P → mi σ' w (4 * f) = nI (gN P r f)
  | _, _, 0, _, _, _, _, h0, _, _ => absurd h0 (Nat.not_lt_zero _)
  | 0, k, fu + 1, σ, h, hP, hk, _, hlo, hhi => by
    have b6 := hB.1
    have c : pn P ≤ k := by omega
    refine ⟨σ, ?_, Fr.rf _ _, fun f hf => hlo f (by omega)⟩
    simp (disch := omega) only [fc12_goYear_2, qI, qL, qR, pI, pL, pR, ldI_lo, ldB_lo, ldZ, ldL, stI, stB, stZ, stL, dr_setI, dr_setL, dr_setR, arr_setI, arr_setL, arr_setR, aLn_setI, aLn_setL, aLn_setR, mr_setI, mr_setL, mi_setL, mi_setR, ml_setI, ml_setR, mi_eq, mi_ne, ml_eq, ml_ne, mr_eq, mr_ne, bnd, nI_clamp, PM h, hP.1, nI_add, pk_mul, nI_leI, nI_ltI, nI_eq, dv_n, rm_n, min_N, max_N, c, if_true, if_false, ↓reduceIte, and_true, true_and, and_false, false_and, not_true_eq_false, not_false_eq_true, and_self, y0]
  | m + 1, k, fu + 1, σ, h, hP, hk, h0, hlo, hhi => by
    have b6 := hB.1
    have c : ¬ pn P ≤ k := by omega
    have kw := h.w hw
    have hw2 : 71 ≤ w ∧ w ≤ 72 := by omega
    have e1 := hhi k (Nat.le_refl _) (by omega)
    have wi := wi_m (N := N) h hP.2.1 hB.2.1 (hRB.2.2 k (by omega)).1
    have hst : Fr (iS w) σ (setI σ w (4 * k) (nI (gN P r k))) := (Fr.rf _ σ).setI _ (by simp only [iS, beq_self_eq_true, Bool.true_and, Bool.and_eq_true, decide_eq_true_eq]; omega)
    obtain ⟨σ2, z1, z2, z3⟩ := goYear2_m (N := N) hw hB hRB h2 hr m (k + 1) fu _ (hst.sh (iS_f hw) h) (hP.fr (hst.mono (fun a j e => iS_j hw e)) rfl (fun _ => ⟨rfl, rfl⟩)) (by omega) (by omega)
      (fun f hf => by
        by_cases e : f = k
        · subst e; rw [mi_eq]
        · rw [mi_ne _ _ (by omega)]; exact hlo f (by omega))
      (fun f hf hf2 => by rw [mi_ne _ _ (by omega)]; exact hhi f (by omega) hf2)
    refine ⟨σ2, ?_, hst.tr z2, z3⟩
    rw [← z1]
    have eg : wiN (pin P) (ro r k) = gN P r k := rfl
    rw [eg] at wi
    simp (disch := omega) only [fc12_goYear_2, qI, qL, qR, pI, pL, pR, ldI_lo, ldB_lo, ldZ, ldL, stI, stB, stZ, stL, dr_setI, dr_setL, dr_setR, arr_setI, arr_setL, arr_setR, aLn_setI, aLn_setL, aLn_setR, mr_setI, mr_setL, mi_setL, mi_setR, ml_setI, ml_setR, mi_eq, mi_ne, ml_eq, ml_ne, mr_eq, mr_ne, bnd, nI_clamp, PM h, kw, hP.1, nI_add, pk_mul, nI_leI, nI_ltI, nI_eq, dv_n, rm_n, min_N, max_N, c, if_true, if_false, ↓reduceIte, and_true, true_and, and_false, false_and, not_true_eq_false, not_false_eq_true, and_self, y0, y4, Nat.add_zero, e1, wi, nI_1]
theorem goYear50_m {N : Nat} {J : Me → Prop} {q : PF} (hJ : PdM N J q) (hq : QB q) {w : Nat} (hw : w = 71 ∨ w = 72) {P : Pl} {r : Rw} {d : Nat → Nat} {rain s : Nat} (hB : PlB P) (hRB : RwB (pn P) r) (hr : rain ≤ 99) (hs : s ≤ 49) (hN : 10 ≤ N) (hd : ∀ f, d f = s + q (ro r f) (rn r f) (rw_ r f) (pvl P f) s (rt r)) :
    ∀ (m k fu : Nat) (σ : Me) (M : Nat), J σ → PlM σ P → RwM σ w (pn P) r → k + m = pn P → m < fu → M < 64 → Seg (ro r) (pn P) M → cnt M (pn P) = k → (∀ f, f < pn P → bt M f = 1 → mi σ 75 f = nI (fal (ro r) d (pn P) rain f)) →
      ∃ σ' : Me, fc12_goYear_50 N fu (some 60) (some w) (nI rain) (nI s) (nI (lfM M d (pn P) 0 rain)) (nI M) (nI k) σ = fc12_goYear_130 N N (some 60) (some w) (nI rain) (nI s) (nI 0) (setI (setI σ' 60 36 (nI 0)) 60 37 (nI 0)) ∧ Fr fS σ σ' ∧ J σ' ∧ ∀ f, f < pn P → mi σ' 75 f = nI (fal (ro r) d (pn P) rain f)
  | _, _, 0, _, _, _, _, _, _, h0, _, _, _, _ => absurd h0 (Nat.not_lt_zero _)
  | 0, k, fu + 1, σ, M, hj, hP, hR, hk, _, hM, hS, hc, hf => by
    have b6 := hB.1
    have h := hJ.1 σ hj
    have c : pn P ≤ k := by omega
    refine ⟨σ, ?_, Fr.rf _ _, hj, fun f hf2 => hf f hf2 (cnt_all M (pn P) (by omega) f hf2)⟩
    simp (disch := omega) only [fc12_goYear_50, qI, qL, qR, pI, pL, pR, ldI_lo, ldB_lo, ldZ, ldL, stI, stB, stZ, stL, dr_setI, dr_setL, dr_setR, arr_setI, arr_setL, arr_setR, aLn_setI, aLn_setL, aLn_setR, mr_setI, mr_setL, mi_setL, mi_setR, ml_setI, ml_setR, mi_eq, mi_ne, ml_eq, ml_ne, mr_eq, mr_ne, bnd, nI_clamp, PM h, hP.1, nI_add, pk_mul, nI_leI, nI_ltI, nI_eq, dv_n, rm_n, min_N, max_N, c, if_true, if_false, ↓reduceIte, and_true, true_and, and_false, false_and, not_true_eq_false, not_false_eq_true, and_self, y0]
  | m + 1, k, fu + 1, σ, M, hj, hP, hR, hk, h0, hM, hS, hc, hf => by
    have b6 := hB.1
    have h := hJ.1 σ hj
    have c : ¬ pn P ≤ k := by omega
    have hnx := nextIn_m (N := N) (g := ro r) h hw hP.1 b6 hM (fun f hf => ⟨(hR.2.2 f hf).1, (hRB.2.2 f hf).1⟩) hN
    have hns := nxt_spec (ro r) M (pn P) 0 none (fun j hj => absurd hj (Nat.not_lt_zero _))
    rw [Nat.zero_add] at hns
    cases en : nxt (ro r) M (pn P) 0 none with
    | none =>
      rw [en] at hns
      have := cnt_full M (pn P) hns
      omega
    | some f =>
      rw [en] at hns hnx
      obtain ⟨f1, f2, f3⟩ := hns
      have hse := seg_next hS f1 f2 f3
      have hlf := lf_M (d := d) hse (pn P) 0 rain (by omega)
      obtain ⟨σ1, p1, p2, p3⟩ := paid_m hJ hj hw hP hB hR hRB f1 hs
      have h1 := hJ.1 σ1 p3
      have hfal : fal (ro r) d (pn P) rain f = min (lfM M d (pn P) 0 rain) (d f) := by unfold fal; rw [hlf]
      have hqf := hq (ro r f) (rn r f) (rw_ r f) (pvl P f) s (rt r)
      have hdf := hd f
      have hl : lfM M d (pn P) 0 rain ≤ rain := by rw [← hlf]; exact lf_le _ _ _ _ _ _
      have hst : Fr fS σ (setI σ1 75 f (nI (fal (ro r) d (pn P) rain f))) := Fr.setI (p2.mono (fun a j e => by simp only [fS, Bool.or_eq_false_iff] at e; exact e.1)) _ (by simp [fS])
      have hj2 : J (setI σ1 75 f (nI (fal (ro r) d (pn P) rain f))) := hJ.2.1 _ _ p3 ((Fr.rf _ σ1).setI _ rfl)
      have hwf : ∀ j, fS w j = false := fun j => by rcases hw with rfl | rfl <;> rfl
      have hlfM := lfM_or d hM (show f < 6 by omega) f2 (pn P) 0 rain (by omega)
      rw [if_pos (by omega)] at hlfM
      obtain ⟨σ2, z1, z2, z3, z4⟩ := goYear50_m hJ hq hw hB hRB hr hs hN hd m (k + 1) fu _ (M ||| 2 ^ f) hj2 (hP.fr hst rfl (fun _ => ⟨rfl, rfl⟩)) (hR.fr hst hwf) (by omega) (by omega) (bit_lt M hM f (by omega)) (seg_or hS b6 hM f1 hse) (by rw [cnt_or hM (by omega) f2 _ b6, if_pos f1, hc])
        (fun j hj1 hj2 => by
          by_cases e : j = f
          · subst e; rw [mi_eq]
          · rw [mi_ne _ _ (by omega), p2.i rfl]
            rw [bt_or hM (by omega) (by omega), if_neg e] at hj2
            exact hf j hj1 hj2)
      refine ⟨σ2, ?_, hst.tr z2, z3, z4⟩
      rw [← z1, hlfM]
      have hsub := pk_sub (Nat.min_le_left (lfM M d (pn P) 0 rain) (d f))
      have hbit := bit_or M hM f (by omega)
      have e9 : lfM M d (pn P) 0 rain - min (lfM M d (pn P) 0 rain) (d f) = lfM M d (pn P) 0 rain - d f := by omega
      rw [hfal]
      rw [e9] at hsub
      have hoi : oI (some f) = nI f := rfl
      rw [hoi] at hnx
      have hqd : nI s + nI (q (ro r f) (rn r f) (rw_ r f) (pvl P f) s (rt r)) = nI (d f) := by rw [nI_add, ← hdf]
      have hmn := fun τ : Me => min_N N (a := lfM M d (pn P) 0 rain) (b := d f) τ (by omega) (by omega)
      have e1 : fc12_goYear_50 N (fu + 1) (some 60) (some w) (nI rain) (nI s) (nI (lfM M d (pn P) 0 rain)) (nI M) (nI k) σ = (fc12_goYear_50 N fu) (some 60) (some w) (nI rain) (nI s) (nI (lfM M d (pn P) 0 rain) - nI (min (lfM M d (pn P) 0 rain) (d f))) (nI M ||| ((1 : Int32) <<< (nI f &&& 31))) (nI (k + 1)) (setI σ1 75 f (nI (min (lfM M d (pn P) 0 rain) (d f)))) := by
        simp (disch := omega) only [fc12_goYear_50, qI, qL, qR, pI, pL, pR, ldI_lo, ldB_lo, ldZ, ldL, stI, stB, stZ, stL, dr_setI, dr_setL, dr_setR, arr_setI, arr_setL, arr_setR, aLn_setI, aLn_setL, aLn_setR, mr_setI, mr_setL, mi_setL, mi_setR, ml_setI, ml_setR, mi_eq, mi_ne, ml_eq, ml_ne, mr_eq, mr_ne, bnd, nI_clamp, PM h, PM h1, hP.1, nI_leI, c, if_true, if_false, ↓reduceIte, and_true, true_and, and_false, false_and, not_true_eq_false, not_false_eq_true, and_self, hnx, p1, hqd, hmn, nI_1]
      rw [e1, hsub, hbit]
