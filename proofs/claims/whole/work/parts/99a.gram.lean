/-! the law's grammar, in numbers: a fault's place, or the place behind and the signs in the order in which they are worked out -/
abbrev Pr : Type := Nat ⊕ (Nat × List Ci)
def chr (T : Tx) (p : Nat) : Nat := if p < T.1 then T.2 p else 0
def skp (T : Tx) : Nat → Nat → Nat
  | 0, p => p
  | m + 1, p => if chr T p = 32 then skp T m (p + 1) else p
def nx (T : Tx) (p : Nat) : Nat := skp T (T.1 - p) p
theorem chr_hi {T : Tx} {p : Nat} (h : T.1 ≤ p) : chr T p = 0 := if_neg (by omega)
theorem chr_lo {T : Tx} {p : Nat} (h : p < T.1) : chr T p = T.2 p := if_pos h
theorem chr_in {T : Tx} {p : Nat} (h : chr T p ≠ 0) : p < T.1 := by
  rcases Nat.lt_or_ge p T.1 with q | q
  · exact q
  · exact absurd (chr_hi q) h
theorem chr_lt {T : Tx} (hT : txOK T) (p : Nat) : chr T p < 256 := by
  unfold chr
  split
  · exact (hT.2 p (by assumption)).2
  · omega
theorem chr_0 {T : Tx} (hT : txOK T) {p : Nat} (h : chr T p = 0) : T.1 ≤ p := by
  rcases Nat.lt_or_ge p T.1 with q | q
  · have := (hT.2 p q).1
    rw [chr_lo q] at h
    omega
  · exact q
theorem nx_stop {T : Tx} {p : Nat} (h : chr T p ≠ 32) : nx T p = p := by
  unfold nx
  cases e : T.1 - p with
  | zero => rfl
  | succ m => rw [skp, if_neg h]
theorem nx_step {T : Tx} {p : Nat} (h : chr T p = 32) : nx T p = nx T (p + 1) := by
  have hp : p < T.1 := chr_in (by rw [h]; decide)
  unfold nx
  rw [show T.1 - p = (T.1 - (p + 1)) + 1 by omega, skp, if_pos h]
theorem nx_end {T : Tx} {p : Nat} (h : T.1 ≤ p) : nx T p = p := nx_stop (by rw [chr_hi h]; decide)
theorem skp_ge (T : Tx) : ∀ (m p : Nat), p ≤ skp T m p
  | 0, _ => Nat.le_refl _
  | m + 1, p => by
    unfold skp
    split
    · exact Nat.le_trans (Nat.le_succ p) (skp_ge T m (p + 1))
    · exact Nat.le_refl _
theorem nx_ge (T : Tx) (p : Nat) : p ≤ nx T p := skp_ge T _ p
theorem skp_le (T : Tx) : ∀ (m p : Nat), skp T m p ≤ p + m
  | 0, _ => Nat.le_refl _
  | m + 1, p => by
    unfold skp
    split
    · have := skp_le T m (p + 1); omega
    · omega
theorem nx_le {T : Tx} {p : Nat} (h : p ≤ T.1) : nx T p ≤ T.1 := by
  have := skp_le T (T.1 - p) p
  unfold nx
  omega
theorem skp_ch (T : Tx) : ∀ (m p : Nat), T.1 ≤ p + m → chr T (skp T m p) ≠ 32
  | 0, p, h => by
    unfold skp
    rw [chr_hi (by omega)]; decide
  | m + 1, p, h => by
    unfold skp
    split
    · exact skp_ch T m (p + 1) (by omega)
    · assumption
theorem nx_ch (T : Tx) (p : Nat) : chr T (nx T p) ≠ 32 := skp_ch T _ p (by omega)
theorem nx_nx (T : Tx) (p : Nat) : nx T (nx T p) = nx T p := nx_stop (nx_ch T p)
theorem skp_bl (T : Tx) : ∀ (m p i : Nat), p ≤ i → i < skp T m p → chr T i = 32
  | 0, p, i, h1, h2 => by unfold skp at h2; omega
  | m + 1, p, i, h1, h2 => by
    unfold skp at h2
    split at h2
    · rename_i c
      by_cases e : i = p
      · rw [e]; exact c
      · exact skp_bl T m (p + 1) i (by omega) h2
    · omega
theorem nx_bl {T : Tx} {p i : Nat} (h1 : p ≤ i) (h2 : i < nx T p) : chr T i = 32 := skp_bl T _ p i h1 h2
def isD (c : Nat) : Bool := decide (48 ≤ c) && decide (c ≤ 57)
def dgN (T : Tx) : Nat → Nat → Nat → Nat × Nat
  | 0, p, v => (p, v)
  | m + 1, p, v => if isD (chr T p) = true then dgN T m (p + 1) (10 * v + (chr T p - 48)) else (p, v)
def ltrI (c : Nat) : Nat := if c = 111 then 1 else if c = 110 then 2 else if c = 119 then 3 else if c = 118 then 4 else if c = 115 then 5 else if c = 116 then 6 else 0
def thn (x : Pr) (f : Nat → List Ci → Pr) : Pr := match x with
  | .inl a => .inl a
  | .inr z => f z.1 z.2
def pNum (T : Tx) (q : Nat) : Pr := if isD (chr T (dgN T 4 q 0).1) = true then .inl (dgN T 4 q 0).1 else .inr ((dgN T 4 q 0).1, [.inl (dgN T 4 q 0).2])
def pCl (T : Tx) (c : Nat) (r : Nat) (C : List Ci) : Pr := if chr T (nx T r) = c then .inr (nx T r + 1, C) else .inl (nx T r)
def pIn (T : Tx) (R : Option (Nat → Pr)) (q : Nat) (f : Nat → List Ci → Pr) : Pr := match R with
  | none => .inl q
  | some X => thn (X (q + 1)) f
def pAtm (T : Tx) (R : Option (Nat → Pr)) (q : Nat) : Pr := if chr T q = 91 then pIn T R q (pCl T 93) else if ltrI (chr T q) ≠ 0 then .inr (q + 1, [.inr (ltrI (chr T q))]) else if isD (chr T q) = true then pNum T q else .inl q
def pAtom (T : Tx) (R : Option (Nat → Pr)) (p : Nat) : Pr := pAtm T R (nx T p)
def pLoop (T : Tx) (ops : Nat → Bool) (X : Nat → Pr) : Nat → Nat → List Ci → Pr
  | 0, p, C => .inr (nx T p, C)
  | m + 1, p, C => if ops (chr T (nx T p)) = true then thn (X (nx T p + 1)) (fun r D => pLoop T ops X m r (C ++ D ++ [.inr (chr T (nx T p))])) else .inr (nx T p, C)
def pChain (T : Tx) (ops : Nat → Bool) (X : Nat → Pr) (p : Nat) : Pr := thn (X p) (fun r C => pLoop T ops X 240 r C)
def oM (c : Nat) : Bool := decide (c = 42) || decide (c = 47)
def oA_ (c : Nat) : Bool := decide (c = 43) || decide (c = 45)
def oN (c : Nat) : Bool := decide (c = 38)
def oO (c : Nat) : Bool := decide (c = 124)
def oC_ (c : Nat) : Bool := decide (c = 61) || decide (c = 60) || decide (c = 62)
def pTerm (T : Tx) (R : Option (Nat → Pr)) : Nat → Pr := pChain T oM (pAtom T R)
def pSumR (T : Tx) (R : Option (Nat → Pr)) : Nat → Pr := pChain T oA_ (pTerm T R)
/-- the parser one deeper, if so many may stand within one another -/
def pSum (T : Tx) : Nat → Nat → Pr
  | 0 => pSumR T none
  | d + 1 => pSumR T (some (pSum T d))
def sumR (T : Tx) : Nat → Option (Nat → Pr)
  | 0 => none
  | d + 1 => some (pSum T d)
theorem pSum_eq (T : Tx) (d : Nat) : pSum T d = pSumR T (sumR T d) := by cases d <;> rfl
def pCmp (T : Tx) (Z : Nat → Pr) (r : Nat) (C : List Ci) : Pr := if oC_ (chr T (nx T r)) = true then thn (Z (nx T r + 1)) (fun r' D => .inr (r', C ++ D ++ [.inr (chr T (nx T r))])) else .inl (nx T r)
def pUn (T : Tx) (Z : Nat → Pr) (R : Option ((Nat → Pr) × (Nat → Pr))) (q : Nat) : Pr := if chr T q = 33 then pIn T (R.map Prod.fst) q (fun r C => .inr (r, C ++ [.inr 33])) else if chr T q = 40 then pIn T (R.map Prod.snd) q (pCl T 41) else thn (Z q) (pCmp T Z)
def pUnit (T : Tx) (Z : Nat → Pr) (R : Option ((Nat → Pr) × (Nat → Pr))) (p : Nat) : Pr := pUn T Z R (nx T p)
def pTru (T : Tx) (Z : Nat → Pr) (R : Option ((Nat → Pr) × (Nat → Pr))) : Nat → Pr := pChain T oN (pUnit T Z R)
def pCndR (T : Tx) (Z : Nat → Pr) (R : Option ((Nat → Pr) × (Nat → Pr))) : Nat → Pr := pChain T oO (pTru T Z R)
/-- a unit and a condition, so many deeper yet -/
def pUC (T : Tx) : Nat → (Nat → Pr) × (Nat → Pr)
  | 0 => (pUnit T (pSum T 0) none, pCndR T (pSum T 0) none)
  | d + 1 => (pUnit T (pSum T (d + 1)) (some (pUC T d)), pCndR T (pSum T (d + 1)) (some (pUC T d)))
def ucR (T : Tx) : Nat → Option ((Nat → Pr) × (Nat → Pr))
  | 0 => none
  | d + 1 => some (pUC T d)
theorem pUC_eq (T : Tx) (d : Nat) : pUC T d = (pUnit T (pSum T d) (ucR T d), pCndR T (pSum T d) (ucR T d)) := by cases d <;> rfl
def cndB (c : Nat) : Bool := decide (c = 33) || decide (c = 40) || oC_ c
def cnd (T : Tx) : Nat → Nat → Bool
  | 0, _ => false
  | m + 1, p => if chr T p = 59 then false else if cndB (chr T p) = true then true else cnd T m (p + 1)
def pEnd (r : Nat) (C : List Ci) : Pr := .inr (r, C ++ [.inr 59])
def pCls2 (T : Tx) (p : Nat) : Pr := if cnd T (T.1 - p) p = true then thn ((pUC T 6).2 p) (fun r C => if chr T (nx T r) = 63 then thn (pSum T 6 (nx T r + 1)) (fun r' D => pEnd r' (C ++ [.inr 63] ++ D)) else .inl (nx T r)) else thn (pSum T 6 p) pEnd
def pCls (T : Tx) (p : Nat) : Pr := if chr T (nx T p) = 121 then (if chr T (nx T (nx T p + 1)) = 58 then pCls2 T (nx T (nx T p + 1) + 1) else .inl (nx T (nx T p + 1))) else .inl (nx T p)
def pLawL (T : Tx) : Nat → Nat → List Ci → Pr
  | 0, p, _ => .inl p
  | m + 1, p, A => thn (pCls T p) (fun r C => if chr T (nx T r) = 0 then .inr (nx T r, A ++ C) else if chr T (nx T r) = 59 then pLawL T m (nx T r + 1) (A ++ C) else .inl (nx T r))
def pLaw (T : Tx) : Pr := pLawL T 241 0 []
/-! where a reading stands, and what it wrote -/
def cdOK : Ci → Prop
  | .inl n => n < 10000
  | .inr s => (1 ≤ s ∧ s ≤ 6) ∨ s = 33 ∨ s ∈ opL
theorem cdOK.ok {c : Ci} (h : cdOK c) : ciOK c := by
  rcases c with n | s
  · exact h
  · rcases h with h | h | h
    · exact .inl h
    · exact .inr (.inr (.inr (.inl h)))
    · exact .inr (.inr (.inr (.inr h)))
theorem cdOK.ne {c : Ci} (h : cdOK c) : c ≠ .inr 59 := by
  rintro rfl
  rcases h with h | h | h
  · omega
  · omega
  · simp [opL] at h
def Gd (T : Tx) (p : Nat) (x : Pr) : Prop := match x with
  | .inl f => f ≤ T.1
  | .inr z => p + z.2.length ≤ z.1 ∧ p < z.1 ∧ z.1 ≤ T.1 ∧ ∀ c ∈ z.2, cdOK c
def GdX (T : Tx) (X : Nat → Pr) : Prop := ∀ p, p ≤ T.1 → Gd T p (X p)
theorem Gd.thn {T : Tx} {p : Nat} {x : Pr} {f : Nat → List Ci → Pr} {Q : Pr → Prop} (h : Gd T p x) (hl : ∀ a, a ≤ T.1 → Q (.inl a)) (hf : ∀ r C, p + C.length ≤ r → p < r → r ≤ T.1 → (∀ c ∈ C, cdOK c) → Q (f r C)) : Q (thn x f) := by
  rcases x with a | ⟨r, C⟩
  · exact hl a h
  · exact hf r C h.1 h.2.1 h.2.2.1 h.2.2.2
theorem Gd.lo {T : Tx} {p p' : Nat} {x : Pr} (h : Gd T p x) (hp : p' ≤ p) : Gd T p' x := by
  rcases x with a | ⟨r, C⟩
  · exact h
  · obtain ⟨h1, h2, h3, h4⟩ := h
    exact ⟨by omega, by omega, h3, h4⟩
theorem dgN_ge (T : Tx) : ∀ (m p v : Nat), p ≤ (dgN T m p v).1
  | 0, _, _ => Nat.le_refl _
  | m + 1, p, v => by
    unfold dgN
    split
    · exact Nat.le_trans (Nat.le_succ p) (dgN_ge T m _ _)
    · exact Nat.le_refl _
theorem dgN_le (T : Tx) : ∀ (m p v : Nat), p ≤ T.1 → (dgN T m p v).1 ≤ T.1
  | 0, _, _, h => h
  | m + 1, p, v, h => by
    unfold dgN
    split
    · rename_i c
      have hp : p < T.1 := chr_in (fun e => by rw [e] at c; simp [isD] at c)
      exact dgN_le T m _ _ (by omega)
    · exact h
theorem isD_le {c : Nat} (h : isD c = true) : 48 ≤ c ∧ c ≤ 57 := by
  simp only [isD, Bool.and_eq_true, decide_eq_true_eq] at h
  exact h
theorem dgN_v (T : Tx) : ∀ (m p v B : Nat), v + 1 ≤ B → (dgN T m p v).2 + 1 ≤ B * 10 ^ m
  | 0, _, v, B, h => by unfold dgN; simpa using h
  | m + 1, p, v, B, h => by
    unfold dgN
    split
    · rename_i c
      have := isD_le c
      have h2 := dgN_v T m (p + 1) (10 * v + (chr T p - 48)) (10 * B) (by omega)
      rw [Nat.pow_succ, Nat.mul_comm (10 ^ m) 10, ← Nat.mul_assoc, Nat.mul_comm B 10]
      exact h2
    · have h3 : 1 ≤ 10 ^ (m + 1) := Nat.one_le_pow _ _ (by decide)
      exact Nat.le_trans h (Nat.le_mul_of_pos_right _ h3)
theorem pNum_gd {T : Tx} {q : Nat} (hq : q ≤ T.1) (hd : isD (chr T q) = true) : Gd T q (pNum T q) := by
  unfold pNum
  have h2 := dgN_le T 4 q 0 hq
  split
  · exact h2
  · refine ⟨?_, ?_, h2, ?_⟩
    · have : q + 1 ≤ (dgN T 4 q 0).1 := by
        unfold dgN; rw [if_pos hd]; exact dgN_ge T 3 _ _
      exact this
    · have : q + 1 ≤ (dgN T 4 q 0).1 := by
        unfold dgN; rw [if_pos hd]; exact dgN_ge T 3 _ _
      exact this
    · intro c hc
      rw [List.mem_singleton.mp hc]
      have := dgN_v T 4 q 0 1 (by omega)
      show (dgN T 4 q 0).2 < 10000
      omega
def GdR (T : Tx) (R : Option (Nat → Pr)) : Prop := ∀ X, R = some X → GdX T X
theorem pIn_gd {T : Tx} {R : Option (Nat → Pr)} (hR : GdR T R) {q : Nat} (hq : q < T.1) {f : Nat → List Ci → Pr} (hf : ∀ r C, q + 1 + C.length ≤ r → q + 1 < r → r ≤ T.1 → (∀ c ∈ C, cdOK c) → Gd T q (f r C)) : Gd T q (pIn T R q f) := by
  cases R with
  | none => exact Nat.le_of_lt hq
  | some X => exact (hR X rfl (q + 1) hq).thn (Q := Gd T q) (fun a h => h) hf
theorem pCl_gd {T : Tx} {c p r : Nat} {C : List Ci} (h0 : c ≠ 0) (h1 : p + C.length ≤ r) (h2 : p < r) (h3 : r ≤ T.1) (h4 : ∀ c ∈ C, cdOK c) : Gd T p (pCl T c r C) := by
  unfold pCl
  have hg := nx_ge T r
  split
  · rename_i e
    have : nx T r < T.1 := chr_in (by rw [e]; exact h0)
    exact ⟨by show p + C.length ≤ nx T r + 1; omega, by show p < nx T r + 1; omega, this, h4⟩
  · exact nx_le h3
theorem ltrI_le (c : Nat) : ltrI c ≤ 6 := by unfold ltrI; repeat' split
                                             all_goals omega
theorem ltrI_0 : ltrI 0 = 0 := rfl
theorem pAtm_gd {T : Tx} {R : Option (Nat → Pr)} (hR : GdR T R) {q : Nat} (hq : q ≤ T.1) : Gd T q (pAtm T R q) := by
  unfold pAtm
  split
  · rename_i e
    have h : q < T.1 := chr_in (by rw [e]; decide)
    exact pIn_gd hR h (fun r C h1 h2 h3 h4 => pCl_gd (by decide) (by omega) (by omega) h3 h4)
  · split
    · rename_i e
      have h : q < T.1 := chr_in (fun w => e (by rw [w]; rfl))
      refine ⟨Nat.le_refl _, Nat.lt_succ_self _, h, fun c hc => ?_⟩
      rw [List.mem_singleton.mp hc]
      have := ltrI_le (chr T q)
      exact .inl (by omega)
    · split
      · rename_i c
        exact pNum_gd hq c
      · exact hq
theorem pAtom_gd {T : Tx} {R : Option (Nat → Pr)} (hR : GdR T R) : GdX T (pAtom T R) := fun p hp => (pAtm_gd hR (nx_le hp)).lo (nx_ge T p)
def OpX (ops : Nat → Bool) : Prop := ∀ c, ops c = true → c ∈ opL
theorem OpX.n0 {ops : Nat → Bool} (h : OpX ops) {c : Nat} (hc : ops c = true) : c ≠ 0 := fun e => by
  have := h c hc
  rw [e] at this
  simp [opL] at this
theorem pLoop_gd {T : Tx} {ops : Nat → Bool} (ho : OpX ops) {X : Nat → Pr} (hX : GdX T X) {p0 : Nat} : ∀ (m p : Nat) (C : List Ci), p0 + C.length ≤ p → p0 < p → p ≤ T.1 → (∀ c ∈ C, cdOK c) → Gd T p0 (pLoop T ops X m p C)
  | 0, p, C, h1, h2, h3, h4 => by
    have hg := nx_ge T p
    exact ⟨by show p0 + C.length ≤ nx T p; omega, by show p0 < nx T p; omega, nx_le h3, h4⟩
  | m + 1, p, C, h1, h2, h3, h4 => by
    have hg := nx_ge T p
    unfold pLoop
    split
    · rename_i e
      have h : nx T p < T.1 := chr_in (ho.n0 e)
      refine (hX (nx T p + 1) h).thn (Q := Gd T p0) (fun a h => h) (fun r D d1 d2 d3 d4 => ?_)
      refine pLoop_gd ho hX m r _ ?_ (by omega) d3 ?_
      · simp only [List.length_append, List.length_cons, List.length_nil]; omega
      · intro c hc
        simp only [List.mem_append, List.mem_singleton] at hc
        rcases hc with (hc | hc) | hc
        · exact h4 c hc
        · exact d4 c hc
        · rw [hc]; exact .inr (.inr (ho _ e))
    · exact ⟨by show p0 + C.length ≤ nx T p; omega, by show p0 < nx T p; omega, nx_le h3, h4⟩
theorem pChain_gd {T : Tx} {ops : Nat → Bool} (ho : OpX ops) {X : Nat → Pr} (hX : GdX T X) : GdX T (pChain T ops X) := fun p hp =>
  (hX p hp).thn (Q := Gd T p) (fun _ h => h) (fun r C h1 h2 h3 h4 => pLoop_gd ho hX 240 r C h1 h2 h3 h4)
theorem oM_x : OpX oM := fun c h => by simp only [oM, Bool.or_eq_true, decide_eq_true_eq] at h; rcases h with rfl | rfl <;> decide
theorem oA_x : OpX oA_ := fun c h => by simp only [oA_, Bool.or_eq_true, decide_eq_true_eq] at h; rcases h with rfl | rfl <;> decide
theorem oN_x : OpX oN := fun c h => by simp only [oN, decide_eq_true_eq] at h; subst h; decide
theorem oO_x : OpX oO := fun c h => by simp only [oO, decide_eq_true_eq] at h; subst h; decide
theorem oC_x : OpX oC_ := fun c h => by simp only [oC_, Bool.or_eq_true, decide_eq_true_eq] at h; rcases h with (rfl | rfl) | rfl <;> decide
theorem pSumR_gd {T : Tx} {R : Option (Nat → Pr)} (hR : GdR T R) : GdX T (pSumR T R) := pChain_gd oA_x (pChain_gd oM_x (pAtom_gd hR))
theorem pSum_gd (T : Tx) : ∀ d, GdX T (pSum T d)
  | 0 => pSumR_gd (fun X e => by cases e)
  | d + 1 => pSumR_gd (fun X e => by cases e; exact pSum_gd T d)
theorem sumR_gd (T : Tx) : ∀ d, GdR T (sumR T d)
  | 0 => fun X e => by cases e
  | d + 1 => fun X e => by cases e; exact pSum_gd T d
theorem pCmp_gd {T : Tx} {Z : Nat → Pr} (hZ : GdX T Z) {p r : Nat} {C : List Ci} (h1 : p + C.length ≤ r) (h2 : p < r) (h3 : r ≤ T.1) (h4 : ∀ c ∈ C, cdOK c) : Gd T p (pCmp T Z r C) := by
  unfold pCmp
  have hg := nx_ge T r
  split
  · rename_i e
    have h : nx T r < T.1 := chr_in (oC_x.n0 e)
    refine (hZ (nx T r + 1) h).thn (Q := Gd T p) (fun a h => h) (fun r' D d1 d2 d3 d4 => ⟨?_, by show p < r'; omega, d3, ?_⟩)
    · simp only [List.length_append, List.length_cons, List.length_nil]; omega
    · intro c hc
      simp only [List.mem_append, List.mem_singleton] at hc
      rcases hc with (hc | hc) | hc
      · exact h4 c hc
      · exact d4 c hc
      · rw [hc]; exact .inr (.inr (oC_x _ e))
  · exact nx_le h3
def GdU (T : Tx) (R : Option ((Nat → Pr) × (Nat → Pr))) : Prop := ∀ X, R = some X → GdX T X.1 ∧ GdX T X.2
theorem pUn_gd {T : Tx} {Z : Nat → Pr} (hZ : GdX T Z) {R : Option ((Nat → Pr) × (Nat → Pr))} (hR : GdU T R) {q : Nat} (hq : q ≤ T.1) : Gd T q (pUn T Z R q) := by
  unfold pUn
  split
  · rename_i e
    have h : q < T.1 := chr_in (by rw [e]; decide)
    refine pIn_gd (fun X e => ?_) h (fun r C h1 h2 h3 h4 => ⟨?_, by show q < r; omega, h3, ?_⟩)
    · cases R with
      | none => cases e
      | some Y => cases e; exact (hR Y rfl).1
    · simp only [List.length_append, List.length_cons, List.length_nil]; omega
    · intro c hc
      simp only [List.mem_append, List.mem_singleton] at hc
      rcases hc with hc | hc
      · exact h4 c hc
      · rw [hc]; exact .inr (.inl rfl)
  · split
    · rename_i e
      have h : q < T.1 := chr_in (by rw [e]; decide)
      refine pIn_gd (fun X e => ?_) h (fun r C h1 h2 h3 h4 => pCl_gd (by decide) (by omega) (by omega) h3 h4)
      cases R with
      | none => cases e
      | some Y => cases e; exact (hR Y rfl).2
    · exact (hZ q hq).thn (Q := Gd T q) (fun a h => h) (fun r C h1 h2 h3 h4 => pCmp_gd hZ h1 h2 h3 h4)
theorem pUnit_gd {T : Tx} {Z : Nat → Pr} (hZ : GdX T Z) {R : Option ((Nat → Pr) × (Nat → Pr))} (hR : GdU T R) : GdX T (pUnit T Z R) := fun p hp => (pUn_gd hZ hR (nx_le hp)).lo (nx_ge T p)
theorem pCndR_gd {T : Tx} {Z : Nat → Pr} (hZ : GdX T Z) {R : Option ((Nat → Pr) × (Nat → Pr))} (hR : GdU T R) : GdX T (pTru T Z R) ∧ GdX T (pCndR T Z R) := ⟨pChain_gd oN_x (pUnit_gd hZ hR), pChain_gd oO_x (pChain_gd oN_x (pUnit_gd hZ hR))⟩
theorem pUC_gd (T : Tx) : ∀ d, GdX T (pUC T d).1 ∧ GdX T (pUC T d).2
  | 0 => ⟨pUnit_gd (pSum_gd T 0) (fun X e => by cases e), (pCndR_gd (pSum_gd T 0) (fun X e => by cases e)).2⟩
  | d + 1 => ⟨pUnit_gd (pSum_gd T _) (fun X e => by cases e; exact pUC_gd T d), (pCndR_gd (pSum_gd T _) (fun X e => by cases e; exact pUC_gd T d)).2⟩
theorem ucR_gd (T : Tx) : ∀ d, GdU T (ucR T d)
  | 0 => fun X e => by cases e
  | d + 1 => fun X e => by cases e; exact pUC_gd T d
