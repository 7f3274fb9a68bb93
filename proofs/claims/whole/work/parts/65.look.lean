theorem Sh.sI {σ : Me} (h : Sh σ) (a i : Nat) (v : Int32) : Sh (setI σ a i v) := h
theorem Sh.sL {σ : Me} (h : Sh σ) (a i : Nat) (v : Int64) : Sh (setL σ a i v) := h
theorem wet_c {N : Nat} {σ : Me} (h : Sh σ) {a : Nat} (ha : a = 19 ∨ a = 25) {f w F : Nat} (hf : f < 6) (e3 : mi σ (a + 3) f = nI w) (eF : mi σ 34 f = nI F) (hw : w ≤ 30) (hF : F ≤ 99) : fc9_wet N 31 (some a) (nI f) σ = some (nI (min 30 (w + F)), σ) := by
  obtain ⟨k0, k1, k2, k3, k4, k5, m0, m1, m2, m3, m4⟩ := h.ldk ha
  have ha2 : a ≤ 25 := by omega
  simp (disch := omega) only [fc9_wet, qI, qL, qR, pI, pL, pR, ldI_lo, ldB_lo, ldZ, ldL, stI, stB, stZ, stL, dr_setI, dr_setL, dr_setR, arr_setI, arr_setL, arr_setR, aLn_setI, aLn_setL, aLn_setR, mr_setI, mr_setL, mi_setL, mi_setR, ml_setI, ml_setR, mi_eq, mi_ne, ml_eq, ml_ne, mr_eq, mr_ne, bnd, nI_clamp, PS h, k0, k3, m2, e3, eF, y30, nI_add, pk_mul, nI_leI, nI_ltI, nI_eq, dv_n, rm_n, min_N, max_N]
theorem usedUp_c {N : Nat} {σ : Me} (h : Sh σ) {a : Nat} (ha : a = 19 ∨ a = 25) {f w F d : Nat} (hf : f < 6) (e2 : mi σ (a + 2) f = nI d) (e3 : mi σ (a + 3) f = nI w) (eF : mi σ 34 f = nI F) (hd : d ≤ 20) (hw : w ≤ 30) (hF : F ≤ 99) : fc9_usedUp N 31 (some a) (nI f) σ = some (nI (min d (min 30 (w + F))), σ) := by
  obtain ⟨k0, k1, k2, k3, k4, k5, m0, m1, m2, m3, m4⟩ := h.ldk ha
  have ha2 : a ≤ 25 := by omega
  have w := wet_c (N := N) h ha hf e3 eF hw hF
  simp (disch := omega) only [fc9_usedUp, qI, qL, qR, pI, pL, pR, ldI_lo, ldB_lo, ldZ, ldL, stI, stB, stZ, stL, dr_setI, dr_setL, dr_setR, arr_setI, arr_setL, arr_setR, aLn_setI, aLn_setL, aLn_setR, mr_setI, mr_setL, mi_setL, mi_setR, ml_setI, ml_setR, mi_eq, mi_ne, ml_eq, ml_ne, mr_eq, mr_ne, bnd, nI_clamp, PS h, k0, k2, m1, e2, w, nI_add, pk_mul, nI_leI, nI_ltI, nI_eq, dv_n, rm_n, min_N, max_N]
def tS : Nat → Nat → Bool := fun a j => (a == 31 && (j == 8 || j == 9)) || a == 34 || a == 35
theorem tS_s {b : Nat} {a j : Nat} (h : sS b a j = false) : tS a j = false := by
  simp only [sS, tS, Bool.or_eq_false_iff, Bool.and_eq_false_iff, decide_eq_false_iff_not, beq_eq_false_iff_ne] at h ⊢
  omega
theorem lo_t {a : Nat} (ha : a = 19 ∨ a = 25) (j : Nat) : tS a j = false ∧ tS (a + 1) j = false ∧ tS (a + 2) j = false ∧ tS (a + 3) j = false ∧ tS (a + 4) j = false ∧ tS (a + 5) j = false := by
  simp only [tS, Bool.or_eq_false_iff, Bool.and_eq_false_iff, decide_eq_false_iff_not, beq_eq_false_iff_ne]
  omega
theorem tS_f : Sf tS := by
  have h : ∀ q ∈ rfL, tS q.1.1 q.1.2 = false := by decide +kernel
  exact h
theorem SkC.fr {S : Nat → Nat → Bool} {σ σ' : Me} {g d : Nat → Nat} {n : Nat} (h : SkC σ g d n) (k : Fr S σ σ') (h6 : S 31 6 = false) (h7 : ∀ j, S 32 j = false ∧ S 33 j = false) : SkC σ' g d n :=
  ⟨by rw [k.i h6]; exact h.1, fun f hf => ⟨by rw [k.i (h7 f).1]; exact (h.2 f hf).1, by rw [k.i (h7 f).2]; exact (h.2 f hf).2⟩⟩
theorem look18_c {N : Nat} {a : Nat} (ha : a = 19 ∨ a = 25) {P : Pl} {r : Rw} {F g d : Nat → Nat} {rain : Nat} (hP : PlB P) (hR : RwB (pn P) r) (hg : ∀ f, f < pn P → g f ≤ 999) (hd : ∀ f, f < pn P → d f ≤ 1000) (hr : rain ≤ 99) (hN : 10 ≤ N) (hF : ∀ f, f < pn P → fal g d (pn P) rain f = F f) (hF9 : ∀ f, F f ≤ 99) :
    ∀ (m k fu : Nat) (σ : Me), Sh σ → LdC σ a P r → SkC σ g d (pn P) → k + m = pn P → m < fu → mi σ 31 8 = nI (bitsF P F k) → mi σ 31 9 = nI (borF P r F k) → (∀ f, f < k → mi σ 34 f = nI (F f) ∧ mi σ 35 f = nI (brnF P r F f)) →
      ∃ σ' : Me, fc9_look_18 N fu (some 31) (some a) (nI rain) (nI k) σ = some ((), σ') ∧ Fr tS σ σ' ∧ mi σ' 31 8 = nI (bitsF P F (pn P)) ∧ mi σ' 31 9 = nI (borF P r F (pn P)) ∧ (∀ f, f < pn P → mi σ' 34 f = nI (F f) ∧ mi σ' 35 f = nI (brnF P r F f))
  | _, _, 0, _, _, _, _, _, h0, _, _, _ => absurd h0 (Nat.not_lt_zero _)
  | 0, k, fu + 1, σ, h, hL, hs, hk, _, h8, h9, hk2 => by
    have b6 := hP.1
    have e : k = pn P := by omega
    rw [e] at h8 h9
    refine ⟨σ, ?_, Fr.rf _ _, h8, h9, fun f hf => hk2 f (by omega)⟩
    have c : pn P ≤ k := by omega
    simp (disch := omega) only [fc9_look_18, qI, qL, qR, pI, pL, pR, ldI_lo, ldB_lo, ldZ, ldL, stI, stB, stZ, stL, dr_setI, dr_setL, dr_setR, arr_setI, arr_setL, arr_setR, aLn_setI, aLn_setL, aLn_setR, mr_setI, mr_setL, mi_setL, mi_setR, ml_setI, ml_setR, mi_eq, mi_ne, ml_eq, ml_ne, mr_eq, mr_ne, bnd, nI_clamp, PS h, hs.1, nI_add, pk_mul, nI_leI, nI_ltI, nI_eq, dv_n, rm_n, min_N, max_N, c, if_true, if_false, ↓reduceIte, and_true, true_and, and_false, false_and, not_true_eq_false, not_false_eq_true, and_self]
  | m + 1, k, fu + 1, σ, h, hL, hs, hk, h0, h8, h9, hk2 => by
    have b6 := hP.1
    have c : ¬ pn P ≤ k := by omega
    have hkn : k < pn P := by omega
    have hk6 : k < 6 := by omega
    obtain ⟨k0, k1, k2, k3, k4, k5, m0, m1, m2, m3, m4⟩ := h.ldk ha
    obtain ⟨l5, l6, l7, l8, l9, lf⟩ := id hL
    obtain ⟨e1, e2, e3, e4, e5⟩ := lf k hkn
    obtain ⟨b1, b2, b3, b4⟩ := hR.2.2 k hkn
    have b5 := hP.2.2.2.2 k hkn
    have b7 := hP.2.2.2.1
    have ha2 : a ≤ 25 := by omega
    have eF := fallOn_c (N := N) h hs b6 hkn hg hd hr hN
    rw [hF k hkn] at eF
    have hFk := hF9 k
    have hbl := bits_lt P F k (by omega)
    have hbo := bor_le (P := P) (r := r) (F := F) hP.2.2.2.2 k (by omega)
    have hbr := brn_le (P := P) (r := r) (F := F) (f := k) b5
    by_cases hc : F k < pdr P
    · have hu := usedUp_c (N := N) (σ := setI (setI σ 34 k (nI (F k))) 35 k (nI 0)) (show Sh _ from h) ha hk6 (d := rn r k) (w := rw_ r k) (F := F k) (by rw [mi_ne _ _ (by omega), mi_ne _ _ (by omega)]; exact e2) (by rw [mi_ne _ _ (by omega), mi_ne _ _ (by omega)]; exact e3) (by rw [mi_ne _ _ (by omega), mi_eq]) b2 b3 hFk
      have hbrn : brnF P r F k = pvl P k * min (rn r k) (min 30 (rw_ r k + F k)) := by unfold brnF wetF; rw [if_pos hc]
      have hst : Fr tS σ (setI (setI (setI (setI σ 34 k (nI (F k))) 35 k (nI 0)) 35 k (nI (brnF P r F k))) 31 9 (nI (borF P r F k + brnF P r F k))) := ((((Fr.rf _ σ).setI _ rfl).setI _ rfl).setI _ rfl).setI _ rfl
      obtain ⟨σ2, z1, z2, z3⟩ := look18_c ha hP hR hg hd hr hN hF hF9 m (k + 1) fu _ (hst.sh tS_f h) (hL.fr hst (lo_t ha)) (hs.fr hst rfl (fun _ => ⟨rfl, rfl⟩)) (by omega) (by omega)
        (by rw [show bitsF P F (k + 1) = bitsF P F k by rw [bitsF, if_pos hc]]; simp (disch := omega) only [mi_ne, mi_eq]; exact h8)
        (by rw [mi_eq]; rfl)
        (fun f hf => by
          by_cases e : f = k
          · subst e
            exact ⟨by simp (disch := omega) only [mi_ne, mi_eq], by simp (disch := omega) only [mi_ne, mi_eq]⟩
          · simp (disch := omega) only [mi_ne, mi_eq]
            exact hk2 f (by omega))
      refine ⟨σ2, ?_, hst.tr z2, z3⟩
      have hb2 : pvl P k * min (rn r k) (min 30 (rw_ r k + F k)) ≤ 270 := by rw [← hbrn]; exact hbr
      simp (disch := omega) only [fc9_look_18, fc9_look_107, qI, qL, qR, pI, pL, pR, ldI_lo, ldB_lo, ldZ, ldL, stI, stB, stZ, stL, dr_setI, dr_setL, dr_setR, arr_setI, arr_setL, arr_setR, aLn_setI, aLn_setL, aLn_setR, mr_setI, mr_setL, mi_setL, mi_setR, ml_setI, ml_setR, mi_eq, mi_ne, ml_eq, ml_ne, mr_eq, mr_ne, bnd, nI_clamp, PS h, hs.1, nI_add, pk_mul, nI_leI, nI_ltI, nI_eq, dv_n, rm_n, min_N, max_N, c, if_true, if_false, ↓reduceIte, and_true, true_and, and_false, false_and, not_true_eq_false, not_false_eq_true, and_self, eF, k0, k4, m3, l7, hc, e4, hu, y0, h9, nI_1]
      rw [← hbrn]
      exact z1
    · have hst : Fr tS σ (setI (setI (setI σ 34 k (nI (F k))) 35 k (nI 0)) 31 8 (nI (bitsF P F k ||| 2 ^ k))) := (((Fr.rf _ σ).setI _ rfl).setI _ rfl).setI _ rfl
      have hbrn : brnF P r F k = 0 := by unfold brnF; rw [if_neg hc]
      obtain ⟨σ2, z1, z2, z3⟩ := look18_c ha hP hR hg hd hr hN hF hF9 m (k + 1) fu _ (hst.sh tS_f h) (hL.fr hst (lo_t ha)) (hs.fr hst rfl (fun _ => ⟨rfl, rfl⟩)) (by omega) (by omega)
        (by rw [mi_eq, show bitsF P F (k + 1) = bitsF P F k ||| 2 ^ k by rw [bitsF, if_neg hc]])
        (by simp (disch := omega) only [mi_ne, mi_eq]; rw [h9, borF, hbrn, Nat.add_zero])
        (fun f hf => by
          by_cases e : f = k
          · subst e
            rw [hbrn]
            exact ⟨by simp (disch := omega) only [mi_ne, mi_eq], by simp (disch := omega) only [mi_ne, mi_eq]⟩
          · simp (disch := omega) only [mi_ne, mi_eq]
            exact hk2 f (by omega))
      refine ⟨σ2, ?_, hst.tr z2, z3⟩
      have hbit := bit_or _ hbl k hk6
      simp (disch := omega) only [fc9_look_18, fc9_look_107, qI, qL, qR, pI, pL, pR, ldI_lo, ldB_lo, ldZ, ldL, stI, stB, stZ, stL, dr_setI, dr_setL, dr_setR, arr_setI, arr_setL, arr_setR, aLn_setI, aLn_setL, aLn_setR, mr_setI, mr_setL, mi_setL, mi_setR, ml_setI, ml_setR, mi_eq, mi_ne, ml_eq, ml_ne, mr_eq, mr_ne, bnd, nI_clamp, PS h, hs.1, nI_add, pk_mul, nI_leI, nI_ltI, nI_eq, dv_n, rm_n, min_N, max_N, c, if_true, if_false, ↓reduceIte, and_true, true_and, and_false, false_and, not_true_eq_false, not_false_eq_true, and_self, eF, k0, k4, m3, l7, hc, y0, h8, nI_1, hbit]
      exact z1
/-- the class looks at a year -/
def LkC (σ : Me) (P : Pl) (q : PF) (r : Rw) (rain : Nat) : Prop := mi σ 31 6 = nI (pn P) ∧ mi σ 31 7 = nI (rain / pn P) ∧ mi σ 31 8 = nI (bitsY P q r rain) ∧ mi σ 31 9 = nI (borY P q r rain) ∧ ∀ f, f < pn P → mi σ 32 f = nI (gN P r f) ∧ mi σ 34 f = nI (falY P q r rain f) ∧ mi σ 35 f = nI (brnY P q r rain f)
theorem look_c {N : Nat} {σ : Me} (h : Sh σ) {a : Nat} (ha : a = 19 ∨ a = 25) {P : Pl} {r : Rw} {q : PF} {b rain : Nat} (hL : LdC σ a P r) (hP : PlB P) (hR : RwB (pn P) r) (hp : PdC N σ b q) (hq : QB q) (h2 : 2 ≤ pn P) (hr : rain ≤ 99) (hN : 10 ≤ N) :
    ∃ σ' : Me, fc9_look N 31 (some a) (nI rain) σ = some ((), σ') ∧ Fr (sS b) σ σ' ∧ LkC σ' P q r rain := by
  obtain ⟨σ1, d, w1, w2, w3, w4, w5⟩ := weighAll_c h ha hL hP hR hp hq h2 hr hN
  have w2s : Fr (sS b) σ σ1 := w2.mono (fun a j e => aS_s e)
  have h1 := w2s.sh (sS_f b) h
  have hF : Fr tS σ1 (setI (setI σ1 31 8 (nI 0)) 31 9 (nI 0)) := ((Fr.rf _ σ1).setI _ rfl).setI _ rfl
  have hsk : SkC σ1 (gN P r) d (pn P) := ⟨w3, fun f hf => ⟨(w5 f hf).1, (w5 f hf).2.1⟩⟩
  obtain ⟨σ2, z1, z2, z3, z4, z5⟩ := look18_c (N := N) (F := falY P q r rain) ha hP hR (fun f _ => g_le P r f) (fun f hf => (w5 f hf).2.2.2) hr hN (fun f hf => fal_eq (fun k hk => (w5 k hk).2.2.1) hr hf) (fun f => Nat.le_trans (falY_le _ _ _ _ _) hr) (pn P) 0 N _ (hF.sh tS_f h1) ((hL.fr w2s (lo_s ha)).fr hF (lo_t ha)) (hsk.fr hF rfl (fun _ => ⟨rfl, rfl⟩)) (by omega) (by have := hP.1; omega)
    (by simp (disch := omega) only [mi_ne, mi_eq]; rfl) (by rw [mi_eq]; rfl) (fun f hf => absurd hf (Nat.not_lt_zero _))
  have z2s := hF.tr z2
  refine ⟨σ2, ?_, w2s.tr (z2s.mono (fun a j e => tS_s e)), ?_, ?_, z3, z4, fun f hf => ⟨?_, z5 f hf⟩⟩
  · simp (disch := omega) only [fc9_look, qI, qL, qR, pI, pL, pR, ldI_lo, ldB_lo, ldZ, ldL, stI, stB, stZ, stL, dr_setI, dr_setL, dr_setR, arr_setI, arr_setL, arr_setR, aLn_setI, aLn_setL, aLn_setR, mr_setI, mr_setL, mi_setL, mi_setR, ml_setI, ml_setR, mi_eq, mi_ne, ml_eq, ml_ne, mr_eq, mr_ne, bnd, nI_clamp, PS h, w1, PS h1, y0]
    exact z1
  · rw [z2s.i rfl]; exact w3
  · rw [z2s.i rfl]; exact w4
  · rw [z2s.i rfl]; exact (w5 f hf).1
