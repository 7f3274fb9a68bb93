/-! the reference's year -/
def PlM (σ : Me) (P : Pl) : Prop := mi σ 60 24 = nI (pn P) ∧ mi σ 65 0 = nI (pin P) ∧ mi σ 65 1 = nI (pdr P) ∧ ∀ f, f < pn P → mi σ 67 (5 * f + 3) = nI (pvl P f)
def RwM (σ : Me) (w n : Nat) (r : Rw) : Prop := mi σ w 24 = nI (rp r) ∧ mi σ w 25 = nI (rt r) ∧ ∀ f, f < n → mi σ w (4 * f) = nI (ro r f) ∧ mi σ w (4 * f + 1) = nI (rn r f) ∧ mi σ w (4 * f + 2) = nI (rw_ r f) ∧ mi σ w (4 * f + 3) = nI (rc r f)
def mS : Nat → Nat → Bool := fun a j => (a == 60 && (j == 5 || (decide (8 ≤ j) && decide (j ≤ 14)) || j == 17)) || a == 73 || a == 74
def jS : Nat → Nat → Bool := fun a j => a == 64 || a == 71 || a == 72 || a == 75 || a == 76 || (a == 60 && (j == 36 || j == 37))
def oS : Nat → Nat → Bool := fun a j => mS a j || a == 64
theorem mS_f : Sf mS := by
  have h : ∀ q ∈ rfL, mS q.1.1 q.1.2 = false := by decide +kernel
  exact h
theorem jS_f : Sf jS := by
  have h : ∀ q ∈ rfL, jS q.1.1 q.1.2 = false := by decide +kernel
  exact h
theorem oS_f : Sf oS := by
  have h : ∀ q ∈ rfL, oS q.1.1 q.1.2 = false := by decide +kernel
  exact h
def LetM (τ : Me) (o n w v s t : Nat) : Prop := mi τ 64 111 = nI o ∧ mi τ 64 110 = nI n ∧ mi τ 64 119 = nI w ∧ mi τ 64 118 = nI v ∧ mi τ 64 115 = nI s ∧ mi τ 64 116 = nI t
/-- what the reference's law pays: J holds of the law's cells and the memo -/
def PdM (N : Nat) (J : Me → Prop) (q : PF) : Prop := (∀ τ, J τ → Sh τ) ∧ (∀ τ τ', J τ → Fr jS τ τ' → J τ') ∧
  (((∀ τ, J τ → mi τ 60 30 = -1) ∧ ∀ o n w v s t, o ≤ 999 → q o n w v s t = min 99 (o / 2)) ∨
   (∀ τ, J τ → ¬ mi τ 60 30 = -1 ∧ ∀ o n w v s t, o ≤ 999 → n ≤ 20 → w ≤ 30 → v ≤ 9 → s ≤ 49 → t ≤ 1500 → LetM τ o n w v s t →
      ∃ x τ', fc12_worthNow N 60 τ = some (x, τ') ∧ Fr mS τ τ' ∧ J τ' ∧ ∀ ρ, fc12_paid_98 N x ρ = some (nI (q o n w v s t), ρ)))
theorem Sh.w {σ : Me} (h : Sh σ) {w : Nat} (hw : w = 71 ∨ w = 72) : ∀ k, k < 207 → arr σ .int (some w) (nI k) = some w := by
  rcases hw with rfl | rfl
  · exact h.ar 71 207 (by decide) rfl (by decide)
  · exact h.ar 72 207 (by decide) rfl (by decide)
theorem PlM.fr {S : Nat → Nat → Bool} {σ σ' : Me} {P : Pl} (h : PlM σ P) (k : Fr S σ σ') (h1 : S 60 24 = false) (h2 : ∀ j, S 65 j = false ∧ S 67 j = false) : PlM σ' P :=
  ⟨by rw [k.i h1]; exact h.1, by rw [k.i (h2 _).1]; exact h.2.1, by rw [k.i (h2 _).1]; exact h.2.2.1, fun f hf => by rw [k.i (h2 _).2]; exact h.2.2.2 f hf⟩
theorem RwM.fr {S : Nat → Nat → Bool} {σ σ' : Me} {w n : Nat} {r : Rw} (h : RwM σ w n r) (k : Fr S σ σ') (h1 : ∀ j, S w j = false) : RwM σ' w n r :=
  ⟨by rw [k.i (h1 _)]; exact h.1, by rw [k.i (h1 _)]; exact h.2.1, fun f hf => by rw [k.i (h1 _), k.i (h1 _), k.i (h1 _), k.i (h1 _)]; exact h.2.2 f hf⟩
theorem wi_m {N : Nat} {σ : Me} (h : Sh σ) {i x : Nat} (hi : mi σ 65 0 = nI i) (h9 : i ≤ 9) (hx : x ≤ 999) : fc12_withInterest N 60 (nI x) σ = some (nI (wiN i x), σ) := by
  have e : fc12_withInterest N 60 (nI x) σ = (dvI (nI x * nI i) 10).bind fun v12 => (fMt_min N 999 (nI x + v12) σ).bind fun p14 => some (p14.1, p14.2) := by
    simp (disch := omega) only [fc12_withInterest, qI, qL, qR, pI, pL, pR, ldI_lo, ldB_lo, ldZ, ldL, stI, stB, stZ, stL, dr_setI, dr_setL, dr_setR, arr_setI, arr_setL, arr_setR, aLn_setI, aLn_setL, aLn_setR, mr_setI, mr_setL, mi_setL, mi_setR, ml_setI, ml_setR, mi_eq, mi_ne, ml_eq, ml_ne, mr_eq, mr_ne, bnd, nI_clamp, PM h, y0, hi]
  rw [e, pk_mul, wi_c3 (wi_c2 h9 hx) hx]
  rfl
theorem val_m {N : Nat} {σ : Me} (h : Sh σ) {P : Pl} (hP : PlM σ P) {f : Nat} (hf : f < pn P) (h6 : pn P ≤ 6) : fc12_value N 60 (nI f) σ = some (nI (pvl P f), σ) := by
  have e := hP.2.2.2 f hf
  simp (disch := omega) only [fc12_value, qI, qL, qR, pI, pL, pR, ldI_lo, ldB_lo, ldZ, ldL, stI, stB, stZ, stL, dr_setI, dr_setL, dr_setR, arr_setI, arr_setL, arr_setR, aLn_setI, aLn_setL, aLn_setR, mr_setI, mr_setL, mi_setL, mi_setR, ml_setI, ml_setR, mi_eq, mi_ne, ml_eq, ml_ne, mr_eq, mr_ne, bnd, nI_clamp, PM h, y5, y3, nI_add, pk_mul, nI_leI, nI_ltI, nI_eq, dv_n, rm_n, min_N, max_N, e]
theorem paid98_m {N : Nat} {x : Nat} (σ : Me) (hx : x < 1000) : fc12_paid_98 N (nI x) σ = some (nI (min 99 x), σ) := by
  simp (disch := omega) only [fc12_paid_98, y99, y0, nI_add, pk_mul, nI_leI, nI_ltI, nI_eq, dv_n, rm_n, min_N, max_N, bnd]
  rw [Nat.max_eq_right (Nat.zero_le _)]
theorem paid_m {N : Nat} {σ : Me} {J : Me → Prop} {q : PF} (hJ : PdM N J q) (hj : J σ) {w : Nat} (hw : w = 71 ∨ w = 72) {P : Pl} {r : Rw} (hP : PlM σ P) (hB : PlB P) (hR : RwM σ w (pn P) r) (hRB : RwB (pn P) r) {f s : Nat} (hf : f < pn P) (hs : s ≤ 49) :
    ∃ σ' : Me, fc12_paid N 60 (some w) (nI f) (nI s) σ = some (nI (q (ro r f) (rn r f) (rw_ r f) (pvl P f) s (rt r)), σ') ∧ Fr oS σ σ' ∧ J σ' := by
  have h := hJ.1 σ hj
  have hw2 : 71 ≤ w ∧ w ≤ 72 := by omega
  have b6 := hB.1
  obtain ⟨b1, b2, b3, b4⟩ := hRB.2.2 f hf
  have b5 := hB.2.2.2.2 f hf
  obtain ⟨e1, e2, e3, e4⟩ := hR.2.2 f hf
  have kw := h.w hw
  rcases hJ.2.2 with ⟨p1, p2⟩ | p3
  · have e := p1 σ hj
    refine ⟨σ, ?_, Fr.rf _ _, hj⟩
    rw [p2 _ _ _ _ _ _ b1]
    have e9 := paid98_m (N := N) σ (x := ro r f / 2) (by omega)
    simp (disch := omega) only [fc12_paid, qI, qL, qR, pI, pL, pR, ldI_lo, ldB_lo, ldZ, ldL, stI, stB, stZ, stL, dr_setI, dr_setL, dr_setR, arr_setI, arr_setL, arr_setR, aLn_setI, aLn_setL, aLn_setR, mr_setI, mr_setL, mi_setL, mi_setR, ml_setI, ml_setR, mi_eq, mi_ne, ml_eq, ml_ne, mr_eq, mr_ne, bnd, nI_clamp, PM h, kw, y0, y4, y2, nI_add, pk_mul, nI_leI, nI_ltI, nI_eq, dv_n, rm_n, min_N, max_N, Nat.add_zero, e1, e, if_true, if_false, ↓reduceIte, and_true, true_and, and_false, false_and, not_true_eq_false, not_false_eq_true, and_self, e9]
  · obtain ⟨n1, p4⟩ := p3 σ hj
    have hF : Fr jS σ (setI (setI (setI (setI (setI (setI σ 64 111 (nI (ro r f))) 64 110 (nI (rn r f))) 64 119 (nI (rw_ r f))) 64 118 (nI (pvl P f))) 64 115 (nI s)) 64 116 (nI (rt r))) :=
      ((((((Fr.rf _ σ).setI _ rfl).setI _ rfl).setI _ rfl).setI _ rfl).setI _ rfl).setI _ rfl
    have hFo : Fr oS σ (setI (setI (setI (setI (setI (setI σ 64 111 (nI (ro r f))) 64 110 (nI (rn r f))) 64 119 (nI (rw_ r f))) 64 118 (nI (pvl P f))) 64 115 (nI s)) 64 116 (nI (rt r))) :=
      ((((((Fr.rf _ σ).setI _ rfl).setI _ rfl).setI _ rfl).setI _ rfl).setI _ rfl).setI _ rfl
    have hj2 := hJ.2.1 _ _ hj hF
    obtain ⟨-, p5⟩ := p3 _ hj2
    have n2 : ¬ mi σ 60 30 = -nI 1 := n1
    obtain ⟨x, τ', q1, q2, q3, q4⟩ := p5 (ro r f) (rn r f) (rw_ r f) (pvl P f) s (rt r) b1 b2 b3 b5 hs hRB.2.1 ⟨by simp (disch := omega) only [mi_ne, mi_eq], by simp (disch := omega) only [mi_ne, mi_eq], by simp (disch := omega) only [mi_ne, mi_eq], by simp (disch := omega) only [mi_ne, mi_eq], by simp (disch := omega) only [mi_ne, mi_eq], by simp (disch := omega) only [mi_ne, mi_eq]⟩
    have ev := val_m (N := N) (σ := setI (setI (setI σ 64 111 (nI (ro r f))) 64 110 (nI (rn r f))) 64 119 (nI (rw_ r f))) (show Sh _ from h) (P := P) (f := f) (hP.fr (S := jS) ((((Fr.rf _ σ).setI _ rfl).setI _ rfl).setI _ rfl) rfl (fun _ => ⟨rfl, rfl⟩)) hf b6
    refine ⟨τ', ?_, hFo.tr (q2.mono (fun a j e => ?_)), q3⟩
    · simp (disch := omega) only [fc12_paid, qI, qL, qR, pI, pL, pR, ldI_lo, ldB_lo, ldZ, ldL, stI, stB, stZ, stL, dr_setI, dr_setL, dr_setR, arr_setI, arr_setL, arr_setR, aLn_setI, aLn_setL, aLn_setR, mr_setI, mr_setL, mi_setL, mi_setR, ml_setI, ml_setR, mi_eq, mi_ne, ml_eq, ml_ne, mr_eq, mr_ne, bnd, nI_clamp, PM h, kw, y0, y1, y2, y3, y4, y5, y25, y110, y111, y115, y116, y118, y119, nI_add, pk_mul, nI_leI, nI_ltI, nI_eq, dv_n, rm_n, min_N, max_N, Nat.add_zero, e1, e2, e3, hR.2.1, n2, if_true, if_false, ↓reduceIte, and_true, true_and, and_false, false_and, not_true_eq_false, not_false_eq_true, and_self, ev]
      rw [q1, bnd]
      exact q4 τ'
    · simp only [oS, Bool.or_eq_false_iff] at e
      exact e.1
def oI : Option Nat → Int32
  | none => -1
  | some b => nI b
theorem nI_m1 {b : Nat} (h : b < 2 ^ 31) : ¬ nI b = -1 := fun e => by
  have h1 := nI_toInt h
  rw [e] at h1
  have h2 : (-1 : Int32).toInt = -1 := rfl
  omega
theorem has_m (N : Nat) {M k : Nat} (hM : M < 64) (hk : k < 6) (σ : Me) : fc12_has N (nI M) (nI k) σ = some (nI (bt M k), σ) := by
  unfold fc12_has
  rw [bit_at M hM k hk]
  rcases bt_01 M k with e | e
  · rw [show M / 2 ^ k % 2 = 0 from e, if_neg (show ¬ nI 0 = (1 : Int32) by decide), e, retZ0]; rfl
  · rw [show M / 2 ^ k % 2 = 1 from e, if_pos (show nI 1 = (1 : Int32) from rfl), e, retZ1]; rfl
theorem nextIn5_m {N : Nat} {σ : Me} (h : Sh σ) {w : Nat} (hw : w = 71 ∨ w = 72) {n M : Nat} {g : Nat → Nat} (hn : mi σ 60 24 = nI n) (h6 : n ≤ 6) (hM : M < 64) (hg : ∀ f, f < n → mi σ w (4 * f) = nI (g f) ∧ g f ≤ 999) :
    ∀ (m k fu : Nat) (b : Option Nat), k + m = n → m < fu → (∀ j, b = some j → j < n) → fc12_nextIn_5 N fu (some 60) (some w) (nI M) (oI b) (nI k) σ = some (oI (nxt g M m k b), σ)
  | _, _, 0, _, _, h0, _ => absurd h0 (Nat.not_lt_zero _)
  | 0, k, fu + 1, b, hk, _, _ => by
    have c : n ≤ k := by omega
    simp (disch := omega) only [fc12_nextIn_5, qI, qL, qR, pI, pL, pR, ldI_lo, ldB_lo, ldZ, ldL, stI, stB, stZ, stL, dr_setI, dr_setL, dr_setR, arr_setI, arr_setL, arr_setR, aLn_setI, aLn_setL, aLn_setR, mr_setI, mr_setL, mi_setL, mi_setR, ml_setI, ml_setR, mi_eq, mi_ne, ml_eq, ml_ne, mr_eq, mr_ne, bnd, nI_clamp, PM h, hn, nI_add, pk_mul, nI_leI, nI_ltI, nI_eq, dv_n, rm_n, min_N, max_N, c, if_true, if_false, ↓reduceIte, and_true, true_and, and_false, false_and, not_true_eq_false, not_false_eq_true, and_self, nxt]
  | m + 1, k, fu + 1, b, hk, h0, hb => by
    have c : ¬ n ≤ k := by omega
    have kw := h.w hw
    have hm := has_m N hM (show k < 6 by omega) σ
    obtain ⟨gk, gk9⟩ := hg k (by omega)
    have hw2 : 71 ≤ w ∧ w ≤ 72 := by omega
    rcases bt_01 M k with e | e
    · cases b with
      | none =>
        have ih := nextIn5_m (N := N) h hw hn h6 hM hg m (k + 1) fu (some k) (by omega) (by omega) (fun j e => by cases e; omega)
        have en : nxt g M (m + 1) k none = nxt g M m (k + 1) (some k) := by rw [nxt, if_neg (by omega)]
        rw [en, ← ih]
        simp (disch := omega) only [fc12_nextIn_5, fc12_nextIn_46, fc12_nextIn_49, qI, qL, qR, pI, pL, pR, ldI_lo, ldB_lo, ldZ, ldL, stI, stB, stZ, stL, dr_setI, dr_setL, dr_setR, arr_setI, arr_setL, arr_setR, aLn_setI, aLn_setL, aLn_setR, mr_setI, mr_setL, mi_setL, mi_setR, ml_setI, ml_setR, mi_eq, mi_ne, ml_eq, ml_ne, mr_eq, mr_ne, bnd, nI_clamp, PM h, hn, nI_add, pk_mul, nI_leI, nI_ltI, nI_eq, dv_n, rm_n, min_N, max_N, c, if_true, if_false, ↓reduceIte, and_true, true_and, and_false, false_and, not_true_eq_false, not_false_eq_true, and_self, hm, e, oI, nI_1]
        rw [if_pos (show nI 0 = 0 from rfl)]
      | some j =>
        have hj := hb j rfl
        obtain ⟨gj, gj9⟩ := hg j hj
        have nj := nI_m1 (b := j) (by omega)
        by_cases cg : g k ≤ g j
        · have ih := nextIn5_m (N := N) h hw hn h6 hM hg m (k + 1) fu (some j) (by omega) (by omega) (fun j e => by cases e; omega)
          have en : nxt g M (m + 1) k (some j) = nxt g M m (k + 1) (some j) := by rw [nxt, if_neg (by omega)]; simp only [cg, if_true]
          rw [en, ← ih]
          simp (disch := omega) only [fc12_nextIn_5, fc12_nextIn_46, fc12_nextIn_49, qI, qL, qR, pI, pL, pR, ldI_lo, ldB_lo, ldZ, ldL, stI, stB, stZ, stL, dr_setI, dr_setL, dr_setR, arr_setI, arr_setL, arr_setR, aLn_setI, aLn_setL, aLn_setR, mr_setI, mr_setL, mi_setL, mi_setR, ml_setI, ml_setR, mi_eq, mi_ne, ml_eq, ml_ne, mr_eq, mr_ne, bnd, nI_clamp, PM h, kw, hn, nI_add, pk_mul, nI_leI, nI_ltI, nI_eq, dv_n, rm_n, min_N, max_N, c, if_true, if_false, ↓reduceIte, and_true, true_and, and_false, false_and, not_true_eq_false, not_false_eq_true, and_self, hm, e, oI, nI_1, nj, y4, y0, Nat.add_zero, gk, gj, cg]
        · have ih := nextIn5_m (N := N) h hw hn h6 hM hg m (k + 1) fu (some k) (by omega) (by omega) (fun j e => by cases e; omega)
          have en : nxt g M (m + 1) k (some j) = nxt g M m (k + 1) (some k) := by rw [nxt, if_neg (by omega)]; simp only [cg, if_false]
          rw [en, ← ih]
          simp (disch := omega) only [fc12_nextIn_5, fc12_nextIn_46, fc12_nextIn_49, qI, qL, qR, pI, pL, pR, ldI_lo, ldB_lo, ldZ, ldL, stI, stB, stZ, stL, dr_setI, dr_setL, dr_setR, arr_setI, arr_setL, arr_setR, aLn_setI, aLn_setL, aLn_setR, mr_setI, mr_setL, mi_setL, mi_setR, ml_setI, ml_setR, mi_eq, mi_ne, ml_eq, ml_ne, mr_eq, mr_ne, bnd, nI_clamp, PM h, kw, hn, nI_add, pk_mul, nI_leI, nI_ltI, nI_eq, dv_n, rm_n, min_N, max_N, c, if_true, if_false, ↓reduceIte, and_true, true_and, and_false, false_and, not_true_eq_false, not_false_eq_true, and_self, hm, e, oI, nI_1, nj, y4, y0, Nat.add_zero, gk, gj, cg]
    · have ih := nextIn5_m (N := N) h hw hn h6 hM hg m (k + 1) fu b (by omega) (by omega) hb
      have en : nxt g M (m + 1) k b = nxt g M m (k + 1) b := by cases b <;> rw [nxt, if_pos e]
      rw [en, ← ih]
      simp (disch := omega) only [fc12_nextIn_5, fc12_nextIn_46, fc12_nextIn_49, qI, qL, qR, pI, pL, pR, ldI_lo, ldB_lo, ldZ, ldL, stI, stB, stZ, stL, dr_setI, dr_setL, dr_setR, arr_setI, arr_setL, arr_setR, aLn_setI, aLn_setL, aLn_setR, mr_setI, mr_setL, mi_setL, mi_setR, ml_setI, ml_setR, mi_eq, mi_ne, ml_eq, ml_ne, mr_eq, mr_ne, bnd, nI_clamp, PM h, hn, nI_add, pk_mul, nI_leI, nI_ltI, nI_eq, dv_n, rm_n, min_N, max_N, c, if_true, if_false, ↓reduceIte, and_true, true_and, and_false, false_and, not_true_eq_false, not_false_eq_true, and_self, hm, e, nI_1]
      rw [if_neg (show ¬ nI 1 = 0 by decide)]
theorem nextIn_m {N : Nat} {σ : Me} (h : Sh σ) {w : Nat} (hw : w = 71 ∨ w = 72) {n M : Nat} {g : Nat → Nat} (hn : mi σ 60 24 = nI n) (h6 : n ≤ 6) (hM : M < 64) (hg : ∀ f, f < n → mi σ w (4 * f) = nI (g f) ∧ g f ≤ 999) (hN : 10 ≤ N) : fc12_nextIn N 60 (some w) (nI M) σ = some (oI (nxt g M n 0 none), σ) :=
  nextIn5_m h hw hn h6 hM hg n 0 N none (by omega) (by omega) (fun j e => by cases e)
