/-! the class's sky over the land at 19 or the guess at 25 -/
def LdC (σ : Me) (a : Nat) (P : Pl) (r : Rw) : Prop := mi σ a 5 = nI (pn P) ∧ mi σ a 6 = nI (pin P) ∧ mi σ a 7 = nI (pdr P) ∧ mi σ a 8 = nI (rp r) ∧ mi σ a 9 = nI (rt r) ∧ ∀ f, f < pn P → mi σ (a + 1) f = nI (ro r f) ∧ mi σ (a + 2) f = nI (rn r f) ∧ mi σ (a + 3) f = nI (rw_ r f) ∧ mi σ (a + 4) f = nI (pvl P f) ∧ mi σ (a + 5) f = nI (rc r f)
/-- the sky's scratch; b is the held law's stack -/
def sS (b : Nat) : Nat → Nat → Bool := fun a j => (a == 31 && decide (6 ≤ j)) || (decide (32 ≤ a) && decide (a ≤ 36)) || (decide (85 ≤ a) && a == b)
def kS (b : Nat) : Nat → Nat → Bool := fun a _ => decide (85 ≤ a) && a == b
theorem sS_f (b : Nat) : Sf (sS b) := by
  have h : ∀ q ∈ rfL, q.1.1 < 85 ∧ sS 0 q.1.1 q.1.2 = false := by decide +kernel
  intro q hq
  have h1 := h q hq
  have h2 : ¬ 85 ≤ q.1.1 := by omega
  have h3 := h1.2
  simp only [sS, h2, decide_false, Bool.false_and, Bool.or_false] at h3 ⊢
  exact h3
/-- what the held law pays -/
def PdC (N : Nat) (σ : Me) (b : Nat) (q : PF) : Prop :=
  (mr σ 31 0 = none ∧ ∀ o n w v s t, o ≤ 999 → q o n w v s t = min 99 (o / 2)) ∨
  (∃ la, mr σ 31 0 = some la ∧ dr σ (some la) (.inl 3) = some la ∧ ∀ τ, Fr (sS b) σ τ → ∀ o n w v s t, o ≤ 999 → n ≤ 20 → w ≤ 30 → v ≤ 9 → s ≤ 49 → t ≤ 1500 → mi τ 36 0 = nI o → mi τ 36 1 = nI n → mi τ 36 2 = nI w → mi τ 36 3 = nI v → mi τ 36 4 = nI s → mi τ 36 5 = nI t →
    ∃ x τ', fc3_worth N la (some 36) τ = some (x, τ') ∧ Fr (kS b) τ τ' ∧ ∀ ρ, fc11_held N (nI 0) x (nI 99) ρ = some (nI (q o n w v s t), ρ))
theorem PdC.fr {N : Nat} {σ σ' : Me} {b : Nat} {q : PF} (h : PdC N σ b q) (k : Fr (sS b) σ σ') : PdC N σ' b q := by
  rcases h with ⟨h1, h2⟩ | ⟨la, h1, h2, h3⟩
  · exact .inl ⟨by rw [k.r rfl]; exact h1, h2⟩
  · exact .inr ⟨la, by rw [k.r rfl]; exact h1, by rw [Fr_d k]; exact h2, fun τ hτ => h3 τ (k.tr hτ)⟩
theorem LdC.fr {S : Nat → Nat → Bool} {σ σ' : Me} {a : Nat} {P : Pl} {r : Rw} (h : LdC σ a P r) (k : Fr S σ σ') (ha : ∀ j, S a j = false ∧ S (a + 1) j = false ∧ S (a + 2) j = false ∧ S (a + 3) j = false ∧ S (a + 4) j = false ∧ S (a + 5) j = false) : LdC σ' a P r := by
  obtain ⟨h1, h2, h3, h4, h5, h6⟩ := h
  refine ⟨by rw [k.i (ha _).1]; exact h1, by rw [k.i (ha _).1]; exact h2, by rw [k.i (ha _).1]; exact h3, by rw [k.i (ha _).1]; exact h4, by rw [k.i (ha _).1]; exact h5, fun f hf => ?_⟩
  obtain ⟨e1, e2, e3, e4, e5⟩ := h6 f hf
  obtain ⟨-, a1, a2, a3, a4, a5⟩ := ha f
  exact ⟨by rw [k.i a1]; exact e1, by rw [k.i a2]; exact e2, by rw [k.i a3]; exact e3, by rw [k.i a4]; exact e4, by rw [k.i a5]; exact e5⟩
theorem wi_c1 {N : Nat} {σ : Me} (h : Sh σ) {a : Nat} (ha : a = 19 ∨ a = 25) {i x : Nat} (hi : mi σ a 6 = nI i) : fc2_withInterest N a (nI x) σ = (dvI (nI x * nI i) 10).bind fun v12 => (fMt_min N 999 (nI x + v12) σ).bind fun p14 => some (p14.1, p14.2) := by
  have e : dr σ (some a) (.inl 2) = some a := by rcases ha with rfl | rfl <;> simp only [PL h]
  unfold fc2_withInterest qI
  rw [e, bnd, bnd, hi]
theorem wi_c2 {i x : Nat} (h9 : i ≤ 9) (hx : x ≤ 999) : x * i ≤ 9000 := Nat.le_trans (Nat.mul_le_mul hx h9) (Nat.le_of_ble_eq_true rfl)
theorem wi_c3 {N y x : Nat} {σ : Me} (hm : y ≤ 9000) (hx : x ≤ 999) : ((dvI (nI y) 10).bind fun v12 => (fMt_min N 999 (nI x + v12) σ).bind fun p14 => some (p14.1, p14.2)) = some (nI (min 999 (x + y / 10)), σ) := by
  have h1 : y / 10 ≤ 900 := by omega
  rw [y10, dv_n (by omega) (by decide) (by decide), bnd]
  generalize y / 10 = z at h1 ⊢
  rw [nI_add, y999, min_N N σ (by decide) (by omega), bnd]
theorem wi_c {N : Nat} {σ : Me} (h : Sh σ) {a : Nat} (ha : a = 19 ∨ a = 25) {i x : Nat} (hi : mi σ a 6 = nI i) (h9 : i ≤ 9) (hx : x ≤ 999) : fc2_withInterest N a (nI x) σ = some (nI (wiN i x), σ) := by
  rw [wi_c1 h ha hi, pk_mul, wi_c3 (wi_c2 h9 hx) hx]
  rfl
/-- the sky has weighed -/
def SkC (σ : Me) (g d : Nat → Nat) (n : Nat) : Prop := mi σ 31 6 = nI n ∧ ∀ f, f < n → mi σ 32 f = nI (g f) ∧ mi σ 33 f = nI (d f)
theorem bef_c {N : Nat} {σ : Me} (h : Sh σ) {g d : Nat → Nat} {n k f : Nat} (hs : SkC σ g d n) (hn : n ≤ 6) (hk : k < n) (hf : f < n) (hg : ∀ f, f < n → g f ≤ 999) : fc9_isBefore N 31 (nI k) (nI f) σ = some (if befB g k f = true then 1 else 0, σ) := by
  have e1 := (hs.2 k hk).1
  have e2 := (hs.2 f hf).1
  have b1 := hg k hk
  have b2 := hg f hf
  simp (disch := omega) only [fc9_isBefore, fc9_isBefore_35, qI, qL, qR, pI, pL, pR, ldI_lo, ldB_lo, ldZ, ldL, stI, stB, stZ, stL, dr_setI, dr_setL, dr_setR, arr_setI, arr_setL, arr_setR, aLn_setI, aLn_setL, aLn_setR, mr_setI, mr_setL, mi_setL, mi_setR, ml_setI, ml_setR, mi_eq, mi_ne, ml_eq, ml_ne, mr_eq, mr_ne, bnd, nI_clamp, PS h, e1, e2, nI_add, pk_mul, nI_leI, nI_ltI, nI_eq, dv_n, rm_n, min_N, max_N, retZ0, retZ1]
  by_cases c1 : g f < g k
  · simp [c1, befB]
  · by_cases c2 : g k = g f
    · by_cases c3 : f ≤ k
      · simp [c1, c2, c3, befB]
      · simp [c1, c2, c3, befB]
    · simp [c1, c2, befB]
theorem fallOn5_c {N : Nat} {σ : Me} (h : Sh σ) {g d : Nat → Nat} {n f : Nat} (hs : SkC σ g d n) (hn : n ≤ 6) (hf : f < n) (hg : ∀ f, f < n → g f ≤ 999) (hd : ∀ f, f < n → d f ≤ 1000) :
    ∀ (m k fu : Nat) (l : Int32), k + m = n → m < fu → -(1000 * k : Int) ≤ l.toInt → l.toInt ≤ 99 → fc9_fallOn_5 N fu (some 31) (nI f) l (nI k) σ = some (nI (min (lf g d f m k l.toInt.toNat) (d f)), σ)
  | _, _, 0, _, _, h0, _, _ => absurd h0 (Nat.not_lt_zero _)
  | 0, k, fu + 1, l, hk, _, hl, hl2 => by
    have e : k = n := by omega
    subst e
    have ef := (hs.2 f hf).2
    have hdf := hd f hf
    have c : k ≤ k := Nat.le_refl _
    simp (disch := omega) only [fc9_fallOn_5, qI, qL, qR, pI, pL, pR, ldI_lo, ldB_lo, ldZ, ldL, stI, stB, stZ, stL, dr_setI, dr_setL, dr_setR, arr_setI, arr_setL, arr_setR, aLn_setI, aLn_setL, aLn_setR, mr_setI, mr_setL, mi_setL, mi_setR, ml_setI, ml_setR, mi_eq, mi_ne, ml_eq, ml_ne, mr_eq, mr_ne, bnd, nI_clamp, PS h, hs.1, nI_add, pk_mul, nI_leI, nI_ltI, nI_eq, dv_n, rm_n, min_N, max_N, c, if_true, if_false, ↓reduceIte, and_true, true_and, and_false, false_and, not_true_eq_false, not_false_eq_true, and_self, ef, lf]
    by_cases hp : 0 ≤ l.toInt
    · obtain ⟨j, hj, e⟩ := nI_of (x := l) (by rw [i_toInt_lt]; exact Int.not_lt.mpr hp)
      subst e
      have e3 := nI_toInt hj
      rw [e3] at hl2
      rw [if_pos (nI_pos' hj), e3, Int.toNat_natCast]
      simp (disch := omega) only [nI_add, pk_mul, nI_leI, nI_ltI, nI_eq, dv_n, rm_n, min_N, max_N, bnd]
    · rw [if_neg (by rw [i_toInt_le]; exact hp), Int.toNat_of_nonpos (by omega), Nat.zero_min]
      rfl
  | m + 1, k, fu + 1, l, hk, h0, hl, hl2 => by
    have ek := (hs.2 k (by omega)).2
    have hdk := hd k (by omega)
    have c : ¬ n ≤ k := by omega
    have eb := bef_c (N := N) h hs hn (show k < n by omega) hf hg
    simp (disch := omega) only [fc9_fallOn_5, qI, qL, qR, pI, pL, pR, ldI_lo, ldB_lo, ldZ, ldL, stI, stB, stZ, stL, dr_setI, dr_setL, dr_setR, arr_setI, arr_setL, arr_setR, aLn_setI, aLn_setL, aLn_setR, mr_setI, mr_setL, mi_setL, mi_setR, ml_setI, ml_setR, mi_eq, mi_ne, ml_eq, ml_ne, mr_eq, mr_ne, bnd, nI_clamp, PS h, hs.1, nI_add, pk_mul, nI_leI, nI_ltI, nI_eq, dv_n, rm_n, min_N, max_N, c, if_true, if_false, ↓reduceIte, and_true, true_and, and_false, false_and, not_true_eq_false, not_false_eq_true, and_self, ek, fc9_fallOn_34, eb]
    have es : (l - nI (d k)).toInt = l.toInt - d k := by
      have e3 := nI_toInt (n := d k) (by omega)
      rw [← e3]
      exact fb_subI (by rw [e3]; omega) (by rw [e3]; omega)
    by_cases hb : befB g k f = true
    · rw [if_pos hb, if_neg (show ¬ (1 : Int32) = 0 by decide), nI_1, fallOn5_c h hs hn hf hg hd m (k + 1) fu _ (by omega) (by omega) (by rw [es]; omega) (by rw [es]; omega), es]
      rw [show lf g d f (m + 1) k l.toInt.toNat = lf g d f m (k + 1) (l.toInt.toNat - d k) by rw [lf, if_pos hb], show (l.toInt - ((d k : Nat) : Int)).toNat = l.toInt.toNat - d k by omega]
    · rw [if_neg hb, if_pos rfl, nI_1, fallOn5_c h hs hn hf hg hd m (k + 1) fu _ (by omega) (by omega) (by omega) hl2]
      rw [show lf g d f (m + 1) k l.toInt.toNat = lf g d f m (k + 1) l.toInt.toNat by rw [lf, if_neg hb]]
theorem fallOn_c {N : Nat} {σ : Me} (h : Sh σ) {g d : Nat → Nat} {n f rain : Nat} (hs : SkC σ g d n) (hn : n ≤ 6) (hf : f < n) (hg : ∀ f, f < n → g f ≤ 999) (hd : ∀ f, f < n → d f ≤ 1000) (hr : rain ≤ 99) (hN : 10 ≤ N) : fc9_fallOn N 31 (nI f) (nI rain) σ = some (nI (fal g d n rain f), σ) := by
  have e := nI_toInt (n := rain) (by omega)
  unfold fc9_fallOn
  rw [y0, fallOn5_c h hs hn hf hg hd n 0 N (nI rain) (by omega) (by omega) (by rw [e]; omega) (by rw [e]; omega), e, Int.toNat_natCast]
  rfl
