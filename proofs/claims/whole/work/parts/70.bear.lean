/-! a loop that counts up -/
theorem lp {α β : Type} (f : Nat → Nat → α → Option β) (I : Nat → α → Prop) (Q : Option β → Prop) (e : Nat) (hend : ∀ (fu : Nat) (s : α), I e s → Q (f (fu + 1) e s)) (hstep : ∀ (fu k : Nat) (s : α), k < e → I k s → (∃ s' : α, f (fu + 1) k s = f fu (k + 1) s' ∧ I (k + 1) s') ∨ Q (f (fu + 1) k s)) : ∀ (m k fu : Nat) (s : α), k + m = e → m < fu → I k s → Q (f fu k s)
  | _, _, 0, _, _, h0, _ => absurd h0 (Nat.not_lt_zero _)
  | 0, k, fu + 1, s, hk, _, h => by
    have e1 : k = e := by omega
    subst e1
    exact hend fu s h
  | m + 1, k, fu + 1, s, hk, h0, h => by
    rcases hstep fu k s (by omega) h with ⟨s', e1, h1⟩ | h1
    · rw [e1]; exact lp f I Q e hend hstep m (k + 1) fu s' (by omega) (by omega) h1
    · exact h1
theorem fr_I {S : Nat → Nat → Bool} {σ σ' : Me} {a i : Nat} {v : Int32} (e : S a i = true) (h : Fr S σ σ') : Fr S σ (setI σ' a i v) := h.setI v e
theorem fr_L {S : Nat → Nat → Bool} {σ σ' : Me} {a i : Nat} {v : Int64} (e : S a i = true) (h : Fr S σ σ') : Fr S σ (setL σ' a i v) := h.setL v e
theorem fr_R {S : Nat → Nat → Bool} {σ σ' : Me} {a i : Nat} {v : Option Nat} (e : S a i = true) (h : Fr S σ σ') : Fr S σ (setR σ' a i v) := h.setR v e
/-! the reference's year: fields bear or drown, the log -/
def mmv (a b s : Nat) : Int32 := if b ≤ a + s then nI (min 999 (a + s - b)) else nI (a + s) - nI b
theorem mm_e {a b s : Nat} (ha : a ≤ 5000) (hb : b ≤ 5000) (hs : s ≤ 5000) : nI a - nI b + nI s = nI (a + s) - nI b := by
  apply Int32.toInt_inj.1
  have e1 := pk_sub_toInt (a := a) (b := b) (by omega) (by omega)
  have e2 := nI_toInt (n := s) (by omega)
  rw [fb_addI (by rw [e1, e2]; omega) (by rw [e1, e2]; omega), e1, e2, pk_sub_toInt (by omega) (by omega)]
  omega
theorem mm_1 (N : Nat) {a b s : Nat} (σ : Me) (ha : a ≤ 5000) (hb : b ≤ 5000) (hs : s ≤ 5000) : fMt_min N (nI 999) (nI a - nI b + nI s) σ = some (mmv a b s, σ) := by
  rw [mm_e ha hb hs]
  unfold mmv
  by_cases h : b ≤ a + s
  · rw [if_pos h, pk_sub h, min_N N σ (by decide) (by omega)]
  · rw [if_neg h]
    unfold fMt_min
    have h2 : nI (a + s) - nI b < nI 999 := by
      rw [i_toInt_lt, pk_sub_toInt (by omega) (by omega), nI_toInt (by decide)]; omega
    rw [if_pos h2]
theorem mm_2 (N : Nat) {a b s : Nat} (σ : Me) (ha : a ≤ 5000) (hb : b ≤ 5000) (hs : s ≤ 5000) : fMt_max N (nI 0) (mmv a b s) σ = some (nI (min 999 (a + s - b)), σ) := by
  unfold mmv
  by_cases h : b ≤ a + s
  · rw [if_pos h, max_N N σ (by decide) (by omega), Nat.max_eq_right (Nat.zero_le _)]
  · rw [if_neg h]
    unfold fMt_max
    have h2 : ¬ nI 0 < nI (a + s) - nI b := by
      rw [i_toInt_lt, pk_sub_toInt (by omega) (by omega), nI_toInt (by decide)]; omega
    rw [if_neg h2, show a + s - b = 0 by omega, Nat.min_zero]
def gyE (N : Nat) (l0 l1 : Option Nat) (l2 : Int32) (σ : Me) : Option (Unit × Me) :=
  (ldI σ l1 (25 : Int32)).bind fun v338 =>
  (stI σ l1 (25 : Int32) (v338 + (1 : Int32))).bind fun σ341 =>
  (ldI σ341 l1 (26 : Int32)).bind fun v345 =>
  if v345 = (60 : Int32) then
    fc12_goYear_354 N N l0 l1 l2 (1 : Int32) σ341
  else
    fc12_goYear_392 N l0 l1 l2 σ341
theorem gy_end {N : Nat} {σ : Me} (h : Sh σ) {n k fu : Nat} (hn : mi σ 60 24 = nI n) (hk : n ≤ k) (h6 : k ≤ 6) (w : Option Nat) (rain s : Int32) : fc12_goYear_130 N (fu + 1) (some 60) w rain s (nI k) σ = gyE N (some 60) w rain σ := by
  have e : qI σ 12 24 (some 60) = some (nI n) := by unfold qI; rw [h.dr 60 (by decide) (k := .inl 12) rfl, bnd, hn]
  rw [fc12_goYear_130, e, bnd, if_pos (nI_le hk (by omega))]
  rfl
theorem gy_dry {N : Nat} {σ : Me} (h : Sh σ) {w : Nat} (hw : w = 71 ∨ w = 72) {n k fu g d wa c F D v b s : Nat} {rain : Int32} (hn : mi σ 60 24 = nI n) (hk : k < n) (h6 : n ≤ 6) (eg : mi σ w (4 * k) = nI g) (ed : mi σ w (4 * k + 1) = nI d) (ew : mi σ w (4 * k + 2) = nI wa) (ec : mi σ w (4 * k + 3) = nI c) (eF : mi σ 75 k = nI F) (eD : mi σ 65 1 = nI D) (ev : mi σ 67 (5 * k + 3) = nI v) (eb : mi σ 60 37 = nI b) (hg : g ≤ 999) (hd : d ≤ 20) (hwa : wa ≤ 30) (hc : c ≤ 999) (hF : F ≤ 99) (hD : D ≤ 99) (hv : v ≤ 9) (hb : b ≤ 5000) (hs : s ≤ 99) (hFD : F < D) :
    fc12_goYear_130 N (fu + 1) (some 60) (some w) rain (nI s) (nI k) σ = fc12_goYear_130 N fu (some 60) (some w) rain (nI s) (nI (k + 1)) (setI (setI (setI (setI (setI (setI (setI σ w (4 * k) (nI (min 999 (g + s - F)))) w (4 * k + 2) (nI (min 30 (wa + F)))) 76 k (nI 0)) w (4 * k + 2) (nI (min 30 (wa + F) - min d (min 30 (wa + F))))) 76 k (nI (min d (min 30 (wa + F)) * v))) 60 37 (nI (b + min d (min 30 (wa + F)) * v))) w (4 * k + 3) (nI (min 999 (c + min d (min 30 (wa + F)) * v)))) := by
  have kw := h.w hw
  have hw2 : 71 ≤ w ∧ w ≤ 72 := by omega
  have c1 : ¬ n ≤ k := by omega
  have hu : min d (min 30 (wa + F)) ≤ 30 := by omega
  have hm : min d (min 30 (wa + F)) * v ≤ 270 := Nat.mul_le_mul hu hv
  have hsub := pk_sub (Nat.min_le_right d (min 30 (wa + F)))
  simp (disch := omega) only [fc12_goYear_130, fc12_goYear_328, fc12_value, qI, qL, qR, pI, pL, pR, ldI_lo, ldB_lo, ldZ, ldL, stI, stB, stZ, stL, dr_setI, dr_setL, dr_setR, arr_setI, arr_setL, arr_setR, aLn_setI, aLn_setL, aLn_setR, mr_setI, mr_setL, mi_setL, mi_setR, ml_setI, ml_setR, mi_eq, mi_ne, ml_eq, ml_ne, mr_eq, mr_ne, bnd, nI_clamp, PM h, kw, hn, nI_add, pk_mul, nI_leI, nI_ltI, nI_eq, dv_n, rm_n, min_N, max_N, c1, if_true, if_false, ↓reduceIte, and_true, true_and, and_false, false_and, not_true_eq_false, not_false_eq_true, and_self, y0, y1, y2, y3, y4, y5, y30, y999, Nat.add_zero, eg, ed, ew, ec, eF, eD, ev, eb, mm_1, mm_2, hFD, hsub]
theorem gy_wet {N : Nat} {σ : Me} (h : Sh σ) {w : Nat} (hw : w = 71 ∨ w = 72) {n k fu g wa F D B s : Nat} {rain : Int32} (hn : mi σ 60 24 = nI n) (hk : k < n) (h6 : n ≤ 6) (eg : mi σ w (4 * k) = nI g) (ew : mi σ w (4 * k + 2) = nI wa) (eF : mi σ 75 k = nI F) (eD : mi σ 65 1 = nI D) (eB : mi σ 60 36 = nI B) (hg : g ≤ 999) (hwa : wa ≤ 30) (hF : F ≤ 99) (hD : D ≤ 99) (hB : B < 64) (hs : s ≤ 99) (hFD : ¬ F < D) :
    fc12_goYear_130 N (fu + 1) (some 60) (some w) rain (nI s) (nI k) σ = fc12_goYear_130 N fu (some 60) (some w) rain (nI s) (nI (k + 1)) (setI (setI (setI (setI σ w (4 * k) (nI (min 999 (g + s - F)))) w (4 * k + 2) (nI (min 30 (wa + F)))) 76 k (nI 0)) 60 36 (nI (B ||| 2 ^ k))) := by
  have kw := h.w hw
  have hw2 : 71 ≤ w ∧ w ≤ 72 := by omega
  have c1 : ¬ n ≤ k := by omega
  have hbit := bit_or B hB k (by omega)
  simp (disch := omega) only [fc12_goYear_130, fc12_goYear_328, fc12_value, qI, qL, qR, pI, pL, pR, ldI_lo, ldB_lo, ldZ, ldL, stI, stB, stZ, stL, dr_setI, dr_setL, dr_setR, arr_setI, arr_setL, arr_setR, aLn_setI, aLn_setL, aLn_setR, mr_setI, mr_setL, mi_setL, mi_setR, ml_setI, ml_setR, mi_eq, mi_ne, ml_eq, ml_ne, mr_eq, mr_ne, bnd, nI_clamp, PM h, kw, hn, nI_add, pk_mul, nI_leI, nI_ltI, nI_eq, dv_n, rm_n, min_N, max_N, c1, if_true, if_false, ↓reduceIte, and_true, true_and, and_false, false_and, not_true_eq_false, not_false_eq_true, and_self, y0, y2, y4, y30, y999, Nat.add_zero, eg, ew, eF, eD, eB, mm_1, mm_2, hFD, y1]
  rw [← y1, hbit]
def bS (w : Nat) : Nat → Nat → Bool := fun a j => (a == w && decide (j < 24)) || a == 76 || (a == 60 && (j == 36 || j == 37))
theorem bS_f {w : Nat} (hw : w = 71 ∨ w = 72) : Sf (bS w) := by
  rcases hw with rfl | rfl
  · have h : ∀ q ∈ rfL, bS 71 q.1.1 q.1.2 = false := by decide +kernel
    exact h
  · have h : ∀ q ∈ rfL, bS 72 q.1.1 q.1.2 = false := by decide +kernel
    exact h
def BrM (P : Pl) (r : Rw) (F : Nat → Nat) (s w : Nat) (σ0 : Me) (k : Nat) (σ : Me) : Prop := Fr (bS w) σ0 σ ∧ mi σ 60 36 = nI (bitsF P F k) ∧ mi σ 60 37 = nI (borF P r F k) ∧
  (∀ f, f < k → mi σ w (4 * f) = nI (ro (yrF P r s F) f) ∧ mi σ w (4 * f + 2) = nI (rw_ (yrF P r s F) f) ∧ mi σ w (4 * f + 3) = nI (rc (yrF P r s F) f) ∧ mi σ 76 f = nI (brnF P r F f)) ∧
  (∀ f, f < pn P → mi σ w (4 * f + 1) = nI (rn r f)) ∧ (∀ f, k ≤ f → f < pn P → mi σ w (4 * f) = nI (gN P r f) ∧ mi σ w (4 * f + 2) = nI (rw_ r f) ∧ mi σ w (4 * f + 3) = nI (rc r f))
theorem goYear130_m {N : Nat} {w : Nat} (hw : w = 71 ∨ w = 72) {P : Pl} {r : Rw} {F : Nat → Nat} {s : Nat} {rain : Int32} (hB : PlB P) (hRB : RwB (pn P) r) (hF9 : ∀ f, F f ≤ 99) (hs : s ≤ 99) (hN : 10 ≤ N) {σ : Me} (h : Sh σ) (hP : PlM σ P) (hF : ∀ f, f < pn P → mi σ 75 f = nI (F f)) (h0 : BrM P r F s w σ 0 σ) :
    ∃ σ' : Me, fc12_goYear_130 N N (some 60) (some w) rain (nI s) (nI 0) σ = gyE N (some 60) (some w) rain σ' ∧ BrM P r F s w σ (pn P) σ' := by
  have b6 := hB.1
  have hw2 : 71 ≤ w ∧ w ≤ 72 := by omega
  refine lp (fun fu k σ => fc12_goYear_130 N fu (some 60) (some w) rain (nI s) (nI k) σ) (BrM P r F s w σ) (fun o => ∃ σ' : Me, o = gyE N (some 60) (some w) rain σ' ∧ BrM P r F s w σ (pn P) σ') (pn P) ?_ ?_ (pn P) 0 N σ (by omega) (by omega) h0
  · intro fu τ hI
    have hn : mi τ 60 24 = nI (pn P) := by rw [hI.1.i (by simp [bS] <;> omega)]; exact hP.1
    exact ⟨τ, gy_end (hI.1.sh (bS_f hw) h) hn (Nat.le_refl _) b6 _ _ _, hI⟩
  · intro fu k τ hk hI
    refine .inl ?_
    obtain ⟨i1, i2, i3, i4, i5, i6⟩ := hI
    have hτ := i1.sh (bS_f hw) h
    have hn : mi τ 60 24 = nI (pn P) := by rw [i1.i (by simp [bS] <;> omega)]; exact hP.1
    obtain ⟨e1, e2, e3⟩ := i6 k (Nat.le_refl _) hk
    have e4 := i5 k hk
    obtain ⟨b1, b2, b3, b4⟩ := hRB.2.2 k hk
    have b5 := hB.2.2.2.2 k hk
    have hg := g_le P r k
    have eF : mi τ 75 k = nI (F k) := by rw [i1.i (by simp [bS] <;> omega)]; exact hF k hk
    have eD : mi τ 65 1 = nI (pdr P) := by rw [i1.i (by simp [bS] <;> omega)]; exact hP.2.2.1
    have ev : mi τ 67 (5 * k + 3) = nI (pvl P k) := by rw [i1.i (by simp [bS] <;> omega)]; exact hP.2.2.2 k hk
    have hbo := bor_le (P := P) (r := r) (F := F) hB.2.2.2.2 k (by omega)
    have hbi := bits_lt P F k (by omega)
    by_cases hc : F k < pdr P
    · refine ⟨_, gy_dry hτ hw hn hk b6 e1 e4 e2 e3 eF eD ev i3 hg b2 b3 b4 (hF9 k) hB.2.2.2.1 b5 (by omega) hs hc, ?_⟩
      have hbrn : min (rn r k) (min 30 (rw_ r k + F k)) * pvl P k = brnF P r F k := by unfold brnF wetF; rw [if_pos hc, Nat.mul_comm]
      have hrw : rw_ (yrF P r s F) k = min 30 (rw_ r k + F k) - min (rn r k) (min 30 (rw_ r k + F k)) := by
        show wetF r F k - (if F k < pdr P then min (rn r k) (wetF r F k) else 0) = _
        rw [if_pos hc]; rfl
      rw [hbrn]
      refine ⟨?_, ?_, ?_, ?_, ?_, ?_⟩
      · repeat (refine fr_I (by simp [bS] <;> omega) ?_)
        exact i1
      · simp (disch := omega) only [mi_ne, mi_eq]
        rw [i2, bitsF, if_pos hc]
      · simp (disch := omega) only [mi_ne, mi_eq]
        rfl
      · intro f hf
        by_cases e : f = k
        · subst e
          simp (disch := omega) only [mi_ne, mi_eq]
          rw [hrw]
          exact ⟨rfl, rfl, rfl, trivial⟩
        · simp (disch := omega) only [mi_ne, mi_eq]
          exact i4 f (by omega)
      · intro f hf
        simp (disch := omega) only [mi_ne, mi_eq]
        exact i5 f hf
      · intro f hf hf2
        simp (disch := omega) only [mi_ne, mi_eq]
        exact i6 f (by omega) hf2
    · refine ⟨_, gy_wet hτ hw hn hk b6 e1 e2 eF eD i2 hg b3 (hF9 k) hB.2.2.2.1 hbi hs hc, ?_⟩
      have hbrn : brnF P r F k = 0 := by unfold brnF; rw [if_neg hc]
      have hrw : rw_ (yrF P r s F) k = min 30 (rw_ r k + F k) := by
        show wetF r F k - (if F k < pdr P then min (rn r k) (wetF r F k) else 0) = _
        rw [if_neg hc]; rfl
      have hrc : rc (yrF P r s F) k = rc r k := by
        show min 999 (rc r k + brnF P r F k) = _
        rw [hbrn]; omega
      refine ⟨?_, ?_, ?_, ?_, ?_, ?_⟩
      · repeat (refine fr_I (by simp [bS] <;> omega) ?_)
        exact i1
      · simp (disch := omega) only [mi_ne, mi_eq]
        rw [bitsF, if_neg hc]
      · simp (disch := omega) only [mi_ne, mi_eq]
        rw [i3, borF, hbrn, Nat.add_zero]
      · intro f hf
        by_cases e : f = k
        · subst e
          simp (disch := omega) only [mi_ne, mi_eq]
          rw [hrw, hrc, hbrn]
          exact ⟨rfl, rfl, e3, rfl⟩
        · simp (disch := omega) only [mi_ne, mi_eq]
          exact i4 f (by omega)
      · intro f hf
        simp (disch := omega) only [mi_ne, mi_eq]
        exact i5 f hf
      · intro f hf hf2
        simp (disch := omega) only [mi_ne, mi_eq]
        exact i6 f (by omega) hf2
