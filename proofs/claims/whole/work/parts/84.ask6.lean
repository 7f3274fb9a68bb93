/-! questions to the class: debts that fit -/
section QS
variable {N : Nat} {σ : Me} {P : Pl} {r : Rw} {q : PF} {b : Nat}
theorem least_n (h : Sh σ) {n : Nat} (hn : mi σ 19 5 = nI n) (h6 : n ≤ 6) {x y : Int32} (hx : ¬ ∃ j w : Nat, 0 < n ∧ j < 100 ∧ w ≤ 1 ∧ x = nI j ∧ y = nI w) : fc11_least N 0 x y σ = some (-1, σ) := by
  have c : ¬ (1 : Int32) = 0 := by decide
  by_cases h0 : n = 0 ∨ x < 0 ∨ nI 100 ≤ x
  · simp (disch := omega) only [fc11_least, PK h, bnd, sky_n h hn h6 h0, if_true, if_false, ↓reduceIte, and_true, true_and, and_false, false_and, not_true_eq_false, not_false_eq_true, and_self]
  · rcases nix x (n := 100) (by omega) with q1 | ⟨j, hj, rfl⟩
    · exact absurd (.inr q1) h0
    · have hn0 : 0 < n := by
        rcases Nat.eq_zero_or_pos n with q | q
        · exact absurd (.inl q) h0
        · exact q
      by_cases c1 : y < 0
      · simp (disch := omega) only [fc11_least, PK h, bnd, sky_y h hn h6 hn0 (show j ≤ 99 by omega), c, c1, if_true, if_false, ↓reduceIte, and_true, true_and, and_false, false_and, not_true_eq_false, not_false_eq_true, and_self]
      · by_cases c2 : y ≤ 1
        · exfalso
          obtain ⟨w, hw, rfl⟩ := nI_of c1
          rw [y1, nI_leI hw (by decide)] at c2
          exact hx ⟨j, w, hn0, hj, c2, rfl, rfl⟩
        · simp (disch := omega) only [fc11_least, PK h, bnd, sky_y h hn h6 hn0 (show j ≤ 99 by omega), c, c1, c2, if_true, if_false, ↓reduceIte, and_true, true_and, and_false, false_and, not_true_eq_false, not_false_eq_true, and_self]
/-- does a debt fit a fact -/
def ftB (P : Pl) (q : PF) (r : Rw) (f : Nat) (fa : Fa) (x : Nat) : Bool := if fa.1 = f then (decide (fa.2.2.1 ≤ falY P q (rOwe r f x) fa.2.1 f) == fa.2.2.2) else true
def fits (P : Pl) (q : PF) (r : Rw) (f : Nat) (fs : List Fa) (x : Nat) : Bool := fs.all fun fa => ftB P q r f fa x
def dbF (p : Nat → Bool) : Nat → Nat → List Nat
  | 0, _ => []
  | m + 1, x => if p x = true then x :: dbF p m (x + 1) else dbF p m (x + 1)
theorem dbF_le (p : Nat → Bool) : ∀ (m x : Nat), (dbF p m x).length ≤ m ∧ ∀ v ∈ dbF p m x, x ≤ v ∧ v < x + m
  | 0, x => ⟨Nat.le_refl _, fun v hv => by simp [dbF] at hv⟩
  | m + 1, x => by
    obtain ⟨h1, h2⟩ := dbF_le p m (x + 1)
    rw [dbF]
    by_cases c : p x = true
    · rw [if_pos c]
      refine ⟨by rw [List.length_cons]; omega, fun v hv => ?_⟩
      rcases List.mem_cons.mp hv with e | e
      · omega
      · have := h2 v e; omega
    · rw [if_neg c]
      exact ⟨by omega, fun v hv => by have := h2 v hv; omega⟩
/-- what the questions about debts write beside the sky and the guess -/
def fX (b : Nat) : Nat → Nat → Bool := fun a j => gX b a j || (decide (53 ≤ a) && decide (a ≤ 56))
theorem fX_c {b a j : Nat} (h : cX b a j = false) : fX b a j = false := by
  simp only [cX, fX, gX, Bool.or_eq_false_iff, Bool.and_eq_false_iff, decide_eq_false_iff_not, beq_eq_false_iff_ne] at h ⊢
  omega
theorem Fr.fc {b : Nat} {σ σ' : Me} (h : Fr (fX b) σ σ') : Fr (cX b) σ σ' := h.mono (fun _ _ e => fX_c e)
theorem Fr.gf {b : Nat} {σ σ' : Me} (h : Fr (gX b) σ σ') : Fr (fX b) σ σ' := h.mono (fun _ _ e => by simp only [fX, Bool.or_eq_false_iff] at e; exact e.1)
theorem nar_0 : vp_nar .boolean 0 = 0 := by decide
theorem nar_1 : vp_nar .boolean 1 = 1 := by decide
theorem allow_c (h : Sh σ) (hN : 200 ≤ N) : ∃ σ' : Me, fc1_allowAll N 48 σ = some ((), σ') ∧ Fr (fun a _ => a == 53) σ σ' ∧ ∀ x, x < 100 → mi σ' 53 x = 1 := by
  have x1 : fc1_allowAll N 48 σ = fc1_allowAll_2 N N (some 48) (nI 0) σ := rfl
  rw [x1]
  refine lp (fun fu k τ => fc1_allowAll_2 N fu (some 48) (nI k) τ) (fun k τ => Fr (fun a _ => a == 53) σ τ ∧ ∀ x, x < k → mi τ 53 x = 1) (fun o => ∃ σ' : Me, o = some ((), σ') ∧ Fr (fun a _ => a == 53) σ σ' ∧ ∀ x, x < 100 → mi σ' 53 x = 1) 100 ?_ ?_ 100 0 N σ (by omega) (by omega) ⟨Fr.rf _ _, fun x hx => by omega⟩
  · rintro fu τ ⟨i1, i2⟩
    refine ⟨τ, ?_, i1, i2⟩
    have c : 99 < 100 := by decide
    simp (disch := omega) only [fc1_allowAll_2, y99, nI_ltI, c, if_true, if_false, ↓reduceIte, and_true, true_and, and_false, false_and, not_true_eq_false, not_false_eq_true, and_self]
  · rintro fu k τ hk ⟨i1, i2⟩
    refine .inl ⟨setI τ 53 k 1, ?_, fr_I rfl i1, fun x hx => ?_⟩
    · have c : ¬ 99 < k := by omega
      have hτ : Sh τ := i1.sh (by
        have h : ∀ q ∈ rfL, (fun a _ : Nat => a == 53) q.1.1 q.1.2 = false := by decide +kernel
        exact h) h
      simp (disch := omega) only [fc1_allowAll_2, y99, nI_ltI, c, if_true, if_false, ↓reduceIte, and_true, true_and, and_false, false_and, not_true_eq_false, not_false_eq_true, and_self, qR, PK hτ, bnd, stZ, A53 hτ, nI_clamp, nar_1, nI_1]
    · by_cases e : x = k
      · subst e; rw [mi_eq]
      · rw [mi_ne _ _ (by omega)]; exact i2 x (by omega)
theorem list_c (h : Sh σ) {p : Nat → Bool} (hp : ∀ x, x < 100 → mi σ 53 x = bI (p x)) (hN : 200 ≤ N) : ∃ σ' : Me, fc1_listAllowed N 48 σ = some (nI (dbF p 100 0).length, σ') ∧ Fr (fun a _ => a == 54) σ σ' ∧ ∀ i v, (dbF p 100 0)[i]? = some v → mi σ' 54 i = nI v := by
  have x1 : fc1_listAllowed N 48 σ = fc1_listAllowed_4 N N (some 48) (nI ([] : List Nat).length) (nI 0) σ := rfl
  rw [x1]
  refine lp (α := List Nat × Me) (fun fu k t => fc1_listAllowed_4 N fu (some 48) (nI t.1.length) (nI k) t.2) (fun k t => Fr (fun a _ => a == 54) σ t.2 ∧ t.1 ++ dbF p (100 - k) k = dbF p 100 0 ∧ ∀ i v, t.1[i]? = some v → mi t.2 54 i = nI v) (fun o => ∃ σ' : Me, o = some (nI (dbF p 100 0).length, σ') ∧ Fr (fun a _ => a == 54) σ σ' ∧ ∀ i v, (dbF p 100 0)[i]? = some v → mi σ' 54 i = nI v) 100 ?_ ?_ 100 0 N ([], σ) (by omega) (by omega) ⟨Fr.rf _ _, rfl, fun i v e => by cases e⟩
  · rintro fu ⟨l, τ⟩ ⟨i1, i2, i3⟩
    have i2 : l ++ dbF p 0 100 = dbF p 100 0 := i2
    rw [dbF, List.append_nil] at i2
    refine ⟨τ, ?_, i1, fun i v e => i3 i v (by rw [← i2] at e; exact e)⟩
    have c : 99 < 100 := by decide
    simp (disch := omega) only [fc1_listAllowed_4, y99, nI_ltI, c, if_true, if_false, ↓reduceIte, and_true, true_and, and_false, false_and, not_true_eq_false, not_false_eq_true, and_self, i2]
  · rintro fu k ⟨l, τ⟩ hk ⟨i1, i2, i3⟩
    have i1 : Fr (fun a _ => a == 54) σ τ := i1
    have i2 : l ++ dbF p (100 - k) k = dbF p 100 0 := i2
    have i3 : ∀ i v, l[i]? = some v → mi τ 54 i = nI v := i3
    refine .inl ?_
    have hτ : Sh τ := i1.sh (by
      have h : ∀ q ∈ rfL, (fun a _ : Nat => a == 54) q.1.1 q.1.2 = false := by decide +kernel
      exact h) h
    have ep : mi τ 53 k = bI (p k) := by rw [i1.i rfl]; exact hp k hk
    have c : ¬ 99 < k := by omega
    rw [show 100 - k = 100 - (k + 1) + 1 by omega, dbF] at i2
    have hlen : l.length ≤ 99 := by
      have h1 := congrArg List.length i2
      rw [List.length_append] at h1
      have h2 := (dbF_le p 100 0).1
      by_cases cp : p k = true
      · rw [if_pos cp, List.length_cons] at h1
        omega
      · by_cases h3 : l.length ≤ 99
        · exact h3
        · exfalso
          have h4 : l.length = 100 := by omega
          have h5 : 100 ≤ (dbF p 100 0).length := by omega
          have key : ∀ (m x : Nat), m ≤ (dbF p m x).length → ∀ y, x ≤ y → y < x + m → p y = true := by
            intro m
            induction m with
            | zero => intro x _ y h1 h2; omega
            | succ m ih =>
              intro x hl y h1 h2
              rw [dbF] at hl
              have hm := (dbF_le p m (x + 1)).1
              by_cases cx : p x = true
              · rw [if_pos cx, List.length_cons] at hl
                by_cases e : y = x
                · rw [e]; exact cx
                · exact ih (x + 1) (by omega) y (by omega) (by omega)
              · rw [if_neg cx] at hl; omega
          exact cp (key 100 0 h5 k (by omega) (by omega))
    by_cases cp : p k = true
    · rw [if_pos cp] at i2
      rw [cp, bI_t] at ep
      have c1 : ¬ (1 : Int32) = 0 := by decide
      refine ⟨(l ++ [k], setI τ 54 l.length (nI k)), ?_, fr_I rfl i1, ?_, fun i v e => ?_⟩
      · show fc1_listAllowed_4 N (fu + 1) (some 48) (nI l.length) (nI k) τ = fc1_listAllowed_4 N fu (some 48) (nI (l ++ [k]).length) (nI (k + 1)) _
        rw [List.length_append, List.length_singleton]
        simp (disch := omega) only [fc1_listAllowed_4, fc1_listAllowed_29, y99, nI_ltI, c, if_true, if_false, ↓reduceIte, and_true, true_and, and_false, false_and, not_true_eq_false, not_false_eq_true, and_self, qR, PK hτ, bnd, ldZ, A53 hτ, A54 hτ, nI_clamp, ep, c1, stI, nI_1]
      · show (l ++ [k]) ++ dbF p (100 - (k + 1)) (k + 1) = _
        rw [List.append_assoc]; exact i2
      · have e : (l ++ [k])[i]? = some v := e
        show mi (setI τ 54 l.length (nI k)) 54 i = nI v
        by_cases ei : i < l.length
        · rw [List.getElem?_append_left ei] at e
          rw [mi_ne _ _ (by omega)]
          exact i3 i v e
        · rw [List.getElem?_append_right (by omega)] at e
          by_cases e0 : i = l.length
          · subst e0
            rw [Nat.sub_self] at e
            cases e
            rw [mi_eq]
          · rw [List.getElem?_eq_none (by rw [List.length_singleton]; omega)] at e
            cases e
    · rw [if_neg cp] at i2
      have cp' : p k = false := by simpa using cp
      rw [cp', bI_f] at ep
      refine ⟨(l, τ), ?_, i1, i2, i3⟩
      simp (disch := omega) only [fc1_listAllowed_4, fc1_listAllowed_29, y99, nI_ltI, c, if_true, if_false, ↓reduceIte, and_true, true_and, and_false, false_and, not_true_eq_false, not_false_eq_true, and_self, qR, PK hτ, bnd, ldZ, A53 hτ, nI_clamp, ep, nI_1]
def faOK (n : Nat) (fa : Fa) : Prop := fa.1 < n ∧ fa.2.1 ≤ 99 ∧ fa.2.2.1 ≤ 99
/-- one fact: all debts are tried -/
theorem fit69_c (h0 : Qc N σ P r q b) {f k : Nat} {fa : Fa} {p0 : Nat → Bool} (hf : f < pn P) (hk : k < 10) (hfa : faOK (pn P) fa) (hN : 200 ≤ N) (K : Option Nat → Int32 → Int32 → Me → Option (Int32 × Me)) {τ0 : Me} (j1 : Fr (fX b) σ τ0) (jL : ∃ y, y ≤ 999 ∧ LdC τ0 25 P (rOwe r f y) ∧ SkY τ0 P q (rOwe r f y) (fa.2.1 / pn P)) (jp : ∀ x, x < 100 → mi τ0 53 x = bI (p0 x)) (e51 : mi σ 51 k = nI fa.2.2.1) (e52 : mi σ 52 k = nI (if fa.2.2.2 = true then 1 else 0)) :
    ∃ σ' : Me, fc11_fitDebts_69 N K N (some 0) (nI f) (nI k) (nI fa.2.1) (nI 0) τ0 = K (some 0) (nI f) (nI (k + 1)) σ' ∧ Fr (fX b) σ σ' ∧ (∃ y, y ≤ 999 ∧ LdC σ' 25 P (rOwe r f y)) ∧ ∀ x, x < 100 → mi σ' 53 x = bI (p0 x && (decide (fa.2.2.1 ≤ falY P q (rOwe r f x) fa.2.1 f) == fa.2.2.2)) := by
  have b6 := h0.2.2.1.1
  have b2 := h0.2.2.2.2.1
  have hP := h0.2.2.1
  have hs : fa.2.1 / pn P ≤ 49 := by
    have : fa.2.1 / pn P ≤ fa.2.1 / 2 := Nat.div_le_div_left b2 (by decide)
    have := hfa.2.1
    omega
  refine lp (fun fu x τ => fc11_fitDebts_69 N K fu (some 0) (nI f) (nI k) (nI fa.2.1) (nI x) τ) (fun x τ => Fr (fX b) σ τ ∧ (∃ y, y ≤ 999 ∧ LdC τ 25 P (rOwe r f y) ∧ SkY τ P q (rOwe r f y) (fa.2.1 / pn P)) ∧ (∀ x', x' < x → mi τ 53 x' = bI (p0 x' && (decide (fa.2.2.1 ≤ falY P q (rOwe r f x') fa.2.1 f) == fa.2.2.2))) ∧ ∀ x', x ≤ x' → x' < 100 → mi τ 53 x' = bI (p0 x')) (fun o => ∃ σ' : Me, o = K (some 0) (nI f) (nI (k + 1)) σ' ∧ Fr (fX b) σ σ' ∧ (∃ y, y ≤ 999 ∧ LdC σ' 25 P (rOwe r f y)) ∧ ∀ x, x < 100 → mi σ' 53 x = bI (p0 x && (decide (fa.2.2.1 ≤ falY P q (rOwe r f x) fa.2.1 f) == fa.2.2.2))) 100 ?_ ?_ 100 0 N τ0 (by omega) (by omega) ⟨j1, jL, fun x hx => by omega, fun x _ hx => jp x hx⟩
  · rintro fu τ ⟨i1, ⟨y, hy, i2, -⟩, i3, -⟩
    refine ⟨τ, ?_, i1, ⟨y, hy, i2⟩, i3⟩
    have c : 99 < 100 := by decide
    simp (disch := omega) only [fc11_fitDebts_69, fc11_fitDebts_175, y99, nI_ltI, c, if_true, if_false, ↓reduceIte, and_true, true_and, and_false, false_and, not_true_eq_false, not_false_eq_true, and_self, nI_1]
  · rintro fu x τ hx ⟨i1, ⟨y, hy, i2, i3⟩, i4, i5⟩
    refine .inl ?_
    have hτ := h0.fr i1.fc
    have c : ¬ 99 < x := by omega
    have f1 : Fr (gX b) τ (setI τ 26 f (nI x)) := fr_I rfl (Fr.rf _ _)
    have h1 := hτ.fr f1.gc
    obtain ⟨τ1, w1, w2, w3, w4⟩ := reweigh_c h1 hf (show x ≤ 999 by omega) hs (set26 i2) (i3.fr (X := fun a _ => a == 26) (fr_I rfl (Fr.rf _ _)) (fun _ => ⟨rfl, rfl, rfl⟩))
    have h2 := h1.fr w2.gc
    have ef := fallY_c (N := N) h2.1 hP rfl w3 hf hfa.2.1 (by omega)
    have hle := falY_le P q (rOwe r f x) fa.2.1 f
    have hr9 := hfa.2.1
    have hv9 := hfa.2.2
    have i1' : Fr (fX b) σ τ1 := (i1.tr f1.gf).tr w2.gf
    have e51' : mi τ1 51 k = nI fa.2.2.1 := by rw [i1'.i rfl]; exact e51
    have e52' : mi τ1 52 k = nI (if fa.2.2.2 = true then 1 else 0) := by rw [i1'.i rfl]; exact e52
    have e53 : mi τ1 53 x = bI (p0 x) := by rw [w2.i rfl, mi_ne _ _ (by omega)]; exact i5 x (Nat.le_refl _) hx
    have c10 : ¬ (1 : Int32) = 0 := by decide
    have hnew : ∀ v, v = bI (p0 x && (decide (fa.2.2.1 ≤ falY P q (rOwe r f x) fa.2.1 f) == fa.2.2.2)) → (Fr (fX b) σ (setI τ1 53 x v) ∧ (∃ y, y ≤ 999 ∧ LdC (setI τ1 53 x v) 25 P (rOwe r f y) ∧ SkY (setI τ1 53 x v) P q (rOwe r f y) (fa.2.1 / pn P)) ∧ (∀ x', x' < x + 1 → mi (setI τ1 53 x v) 53 x' = bI (p0 x' && (decide (fa.2.2.1 ≤ falY P q (rOwe r f x') fa.2.1 f) == fa.2.2.2))) ∧ ∀ x', x + 1 ≤ x' → x' < 100 → mi (setI τ1 53 x v) 53 x' = bI (p0 x')) := fun v ev => by
      refine ⟨fr_I rfl i1', ⟨x, by omega, w4.fr (S := fun a _ => a == 53) (fr_I rfl (Fr.rf _ _)) (fun _ => ⟨rfl, rfl, rfl, rfl, rfl, rfl⟩), w3.fr (X := fun a _ => a == 53) (fr_I rfl (Fr.rf _ _)) (fun _ => ⟨rfl, rfl, rfl⟩)⟩, fun x' hx' => ?_, fun x' h3 h4 => ?_⟩
      · by_cases e : x' = x
        · subst e; rw [mi_eq, ev]
        · rw [mi_ne _ _ (by omega), w2.i rfl, mi_ne _ _ (by omega)]; exact i4 x' (by omega)
      · rw [mi_ne _ _ (by omega), w2.i rfl, mi_ne _ _ (by omega)]; exact i5 x' (by omega) h4
    have hd : fc11_fitDebts_69 N K (fu + 1) (some 0) (nI f) (nI k) (nI fa.2.1) (nI x) τ = fc11_fitDebts_125 N K (fc11_fitDebts_69 N K fu) (some 0) (nI f) (nI k) (nI fa.2.1) (nI x) (bI (decide (fa.2.2.1 ≤ falY P q (rOwe r f x) fa.2.1 f))) τ1 := by
      by_cases cv : falY P q (rOwe r f x) fa.2.1 f < fa.2.2.1
      · have nv : ¬ fa.2.2.1 ≤ falY P q (rOwe r f x) fa.2.1 f := by omega
        simp (disch := omega) only [fc11_fitDebts_69, y99, nI_ltI, c, if_true, if_false, ↓reduceIte, and_true, true_and, and_false, false_and, not_true_eq_false, not_false_eq_true, and_self, qR, PK hτ.1, bnd, stI, A26 hτ.1, nI_clamp, dr_setI, mr_setI, w1, PK h2.1, ef, ldI_lo, A51 h2.1, e51', cv, nv, decide_false, bI_f]
      · have nv : fa.2.2.1 ≤ falY P q (rOwe r f x) fa.2.1 f := by omega
        simp (disch := omega) only [fc11_fitDebts_69, y99, nI_ltI, c, if_true, if_false, ↓reduceIte, and_true, true_and, and_false, false_and, not_true_eq_false, not_false_eq_true, and_self, qR, PK hτ.1, bnd, stI, A26 hτ.1, nI_clamp, dr_setI, mr_setI, w1, PK h2.1, ef, ldI_lo, A51 h2.1, e51', cv, nv, decide_true, bI_t]
    generalize hfl : decide (fa.2.2.1 ≤ falY P q (rOwe r f x) fa.2.1 f) = fl at hd hnew
    by_cases cp : p0 x = true
    · rw [cp, bI_t] at e53
      rw [cp] at hnew
      by_cases ch : fl = fa.2.2.2
      · refine ⟨setI τ1 53 x 1, ?_, hnew 1 (by rw [ch]; cases fa.2.2.2 <;> rfl)⟩
        have eh : bI fl = nI (if fa.2.2.2 = true then 1 else 0) := by rw [ch]; cases fa.2.2.2 <;> rfl
        show fc11_fitDebts_69 N K (fu + 1) (some 0) (nI f) (nI k) (nI fa.2.1) (nI x) τ = _
        rw [hd]
        simp (disch := omega) only [fc11_fitDebts_125, fc11_fitDebts_168, qR, PK h2.1, bnd, ldZ, A53 h2.1, A52 h2.1, nI_clamp, e53, c10, if_true, if_false, ↓reduceIte, and_true, true_and, and_false, false_and, not_true_eq_false, not_false_eq_true, and_self, e52', eh, stZ, nar_1, nI_1]
      · refine ⟨setI τ1 53 x 0, ?_, hnew 0 (by
          have h5 : (fl == fa.2.2.2) = false := by simpa using ch
          rw [h5]; rfl)⟩
        have eh : ¬ bI fl = nI (if fa.2.2.2 = true then 1 else 0) := by
          intro e
          cases hfl2 : fl <;> cases hfa2 : fa.2.2.2 <;> rw [hfl2, hfa2] at e ch
          · exact ch rfl
          · exact absurd e (by decide)
          · exact absurd e (by decide)
          · exact ch rfl
        show fc11_fitDebts_69 N K (fu + 1) (some 0) (nI f) (nI k) (nI fa.2.1) (nI x) τ = _
        rw [hd]
        simp (disch := omega) only [fc11_fitDebts_125, fc11_fitDebts_167, fc11_fitDebts_168, qR, PK h2.1, bnd, ldZ, A53 h2.1, A52 h2.1, nI_clamp, e53, c10, if_true, if_false, ↓reduceIte, and_true, true_and, and_false, false_and, not_true_eq_false, not_false_eq_true, and_self, e52', eh, stZ, nar_0, nI_1]
    · have cp' : p0 x = false := by simpa using cp
      rw [cp', bI_f] at e53
      rw [cp'] at hnew
      refine ⟨setI τ1 53 x 0, ?_, hnew 0 rfl⟩
      show fc11_fitDebts_69 N K (fu + 1) (some 0) (nI f) (nI k) (nI fa.2.1) (nI x) τ = _
      rw [hd]
      simp (disch := omega) only [fc11_fitDebts_125, fc11_fitDebts_167, fc11_fitDebts_168, qR, PK h2.1, bnd, ldZ, A53 h2.1, nI_clamp, e53, if_true, if_false, ↓reduceIte, and_true, true_and, and_false, false_and, not_true_eq_false, not_false_eq_true, and_self, stZ, nar_0, nI_1]
theorem all_take (p : Fa → Bool) (fs : List Fa) (k : Nat) (fa : Fa) (h : fs[k]? = some fa) : (fs.take (k + 1)).all p = ((fs.take k).all p && p fa) := by
  rw [List.take_succ, h, List.all_append]
  simp
theorem fitDebts_c (h0 : Qc N σ P r q b) {f : Nat} {fs : List Fa} (hf : f < pn P) (hF : FcC σ fs) (hfs : fs.length ≤ 10) (hok : ∀ (k : Nat) (fa : Fa), fs[k]? = some fa → faOK (pn P) fa) (hN : 200 ≤ N) :
    ∃ σ' : Me, fc11_fitDebts N 0 (nI f) σ = some (nI (dbF (fits P q r f fs) 100 0).length, σ') ∧ Fr (fX b) σ σ' ∧ (∃ y, y ≤ 999 ∧ LdC σ' 25 P (rOwe r f y)) ∧ ∀ i v, (dbF (fits P q r f fs) 100 0)[i]? = some v → mi σ' 54 i = nI v := by
  have b6 := h0.2.2.1.1
  obtain ⟨σ1, c1, c2, c3⟩ := copy25_g h0
  have h1 := h0.fr c2.gc
  obtain ⟨σ2, a1, a2, a3⟩ := allow_c (N := N) h1.1 hN
  have a2f : Fr (fX b) σ1 σ2 := a2.mono (fun a j e => by
    simp only [fX, gX, Bool.or_eq_false_iff, Bool.and_eq_false_iff, decide_eq_false_iff_not, beq_eq_false_iff_ne] at e ⊢
    omega)
  have x1 : fc11_fitDebts N 0 (nI f) σ = fc11_fitDebts_20 N N (some 0) (nI f) (nI 0) σ2 := by
    simp (disch := omega) only [fc11_fitDebts, qR, PK h0.1, bnd, c1, PK h1.1, a1]
    rfl
  rw [x1]
  have hI0 : Fr (fX b) σ σ2 ∧ (∃ y, y ≤ 999 ∧ LdC σ2 25 P (rOwe r f y)) ∧ ∀ x, x < 100 → mi σ2 53 x = bI ((fs.take 0).all fun fa => ftB P q r f fa x) := by
    refine ⟨c2.gf.tr a2f, ⟨ro r f, (h0.2.2.2.1.2.2 f hf).1, ?_⟩, fun x hx => by rw [a3 x hx]; rfl⟩
    rw [rOwe_self]
    exact c3.fr a2 (fun _ => ⟨rfl, rfl, rfl, rfl, rfl, rfl⟩)
  refine lp (fun fu k τ => fc11_fitDebts_20 N fu (some 0) (nI f) (nI k) τ) (fun k τ => Fr (fX b) σ τ ∧ (∃ y, y ≤ 999 ∧ LdC τ 25 P (rOwe r f y)) ∧ ∀ x, x < 100 → mi τ 53 x = bI ((fs.take k).all fun fa => ftB P q r f fa x)) (fun o => ∃ σ' : Me, o = some (nI (dbF (fits P q r f fs) 100 0).length, σ') ∧ Fr (fX b) σ σ' ∧ (∃ y, y ≤ 999 ∧ LdC σ' 25 P (rOwe r f y)) ∧ ∀ i v, (dbF (fits P q r f fs) 100 0)[i]? = some v → mi σ' 54 i = nI v) fs.length ?_ ?_ fs.length 0 N σ2 (by omega) (by omega) hI0
  · rintro fu τ ⟨i1, ⟨y, hy, i2⟩, i3⟩
    have hτ := h0.fr i1.fc
    rw [List.take_length] at i3
    obtain ⟨σ', z1, z2, z3⟩ := list_c (N := N) (p := fits P q r f fs) hτ.1 i3 hN
    have z2f : Fr (fX b) τ σ' := z2.mono (fun a j e => by
      simp only [fX, gX, Bool.or_eq_false_iff, Bool.and_eq_false_iff, decide_eq_false_iff_not, beq_eq_false_iff_ne] at e ⊢
      omega)
    refine ⟨σ', ?_, i1.tr z2f, ⟨y, hy, i2.fr z2 (fun _ => ⟨rfl, rfl, rfl, rfl, rfl, rfl⟩)⟩, z3⟩
    have e4 : mi τ 48 4 = nI fs.length := by rw [i1.i rfl]; exact hF.1
    have cc : fs.length ≤ fs.length := Nat.le_refl _
    simp (disch := omega) only [fc11_fitDebts_20, qR, qI, PK hτ.1, bnd, e4, nI_leI, cc, if_true, if_false, ↓reduceIte, and_true, true_and, and_false, false_and, not_true_eq_false, not_false_eq_true, and_self, z1]
  · rintro fu k τ hk ⟨i1, ⟨y, hy, i2⟩, i3⟩
    refine .inl ?_
    have hτ := h0.fr i1.fc
    obtain ⟨fa, hfa⟩ : ∃ fa, fs[k]? = some fa := ⟨fs[k], List.getElem?_eq_getElem hk⟩
    obtain ⟨q1, q2, q3, q4⟩ := hF.2 k fa hfa
    have hfo := hok k fa hfa
    have e4 : mi τ 48 4 = nI fs.length := by rw [i1.i rfl]; exact hF.1
    have e49 : mi τ 49 k = nI fa.1 := by rw [i1.i rfl]; exact q1
    have e50 : mi τ 50 k = nI fa.2.1 := by rw [i1.i rfl]; exact q2
    have cc : ¬ fs.length ≤ k := by omega
    have hp1 := hfo.1
    have hr9 := hfo.2.1
    by_cases ef : fa.1 = f
    · obtain ⟨τ1, d, w1, w2, w3, w4, w5, w6⟩ := weigh25 hτ i2 (h0.2.2.2.1.owe (f := f) (x := y) hy) (rain := fa.2.1) hr9
      have hS : SkY τ1 P q (rOwe r f y) (fa.2.1 / pn P) := ⟨d, w3, w4, w5⟩
      have i1' : Fr (fX b) σ τ1 := i1.tr w2.gf
      obtain ⟨σ', z1, z2, z3, z4⟩ := fit69_c h0 hf (show k < 10 by omega) hfo hN (fc11_fitDebts_20 N fu) i1' ⟨y, hy, w6, hS⟩ (fun x hx => by rw [w2.i rfl]; exact i3 x hx) q3 q4
      refine ⟨σ', ?_, z2, z3, fun x hx => ?_⟩
      · rw [← z1]
        simp (disch := omega) only [fc11_fitDebts_20, qR, qI, PK hτ.1, bnd, e4, nI_leI, cc, if_true, if_false, ↓reduceIte, and_true, true_and, and_false, false_and, not_true_eq_false, not_false_eq_true, and_self, ldI_lo, A49 hτ.1, A50 hτ.1, nI_clamp, e49, e50, ef, w1, y0]
      · rw [z4 x hx, all_take _ fs k fa hfa, ftB, if_pos ef]
    · refine ⟨τ, ?_, i1, ⟨y, hy, i2⟩, fun x hx => ?_⟩
      · simp (disch := omega) only [fc11_fitDebts_20, fc11_fitDebts_175, qR, qI, PK hτ.1, bnd, e4, nI_leI, cc, if_true, if_false, ↓reduceIte, and_true, true_and, and_false, false_and, not_true_eq_false, not_false_eq_true, and_self, ldI_lo, A49 hτ.1, nI_clamp, e49, nI_eq, ef, nI_1]
      · rw [i3 x hx, all_take _ fs k fa hfa, ftB, if_neg ef, Bool.and_true]
/-! the answers -/
def dbA (l : List Nat) (i : Int32) : Int32 := if i = -1 then nI l.length else if nI l.length ≤ i then -1 else nI (l.getD i.toNatClampNeg 0)
theorem debts_c (h : Qc N σ P r q b) {f : Nat} {fs : List Fa} (hf : f < pn P) (hF : FcC σ fs) (hfs : fs.length ≤ 10) (hok : ∀ (k : Nat) (fa : Fa), fs[k]? = some fa → faOK (pn P) fa) (hN : 200 ≤ N) {i : Int32} (hi : (-1 : Int32) ≤ i) : ∃ σ' : Me, fc11_debts N 0 (nI f) i σ = some (dbA (dbF (fits P q r f fs) 100 0) i, σ') ∧ Fr (cX b) σ σ' := by
  obtain ⟨σ1, z1, z2, z3, z4⟩ := fitDebts_c h hf hF hfs hok hN
  have h1 := h.fr z2.fc
  have b6 := h.2.2.1.1
  have hl := (dbF_le (fits P q r f fs) 100 0).1
  refine ⟨σ1, ?_, z2.fc⟩
  have cc : ¬ (1 : Int32) = 0 := by decide
  by_cases e1 : i = -1
  · rw [dbA, if_pos e1]
    have hi1 : (-1 : Int32) ≤ -1 := by decide
    simp (disch := omega) only [fc11_debts, qR, PK h.1, bnd, has_y h.1 (.inl rfl) h.2.1.1 b6 hf, cc, if_true, if_false, ↓reduceIte, and_true, true_and, and_false, false_and, not_true_eq_false, not_false_eq_true, and_self, hi1, z1, e1]
  · by_cases e2 : nI (dbF (fits P q r f fs) 100 0).length ≤ i
    · rw [dbA, if_neg e1, if_pos e2]
      simp (disch := omega) only [fc11_debts, qR, PK h.1, bnd, has_y h.1 (.inl rfl) h.2.1.1 b6 hf, cc, if_true, if_false, ↓reduceIte, and_true, true_and, and_false, false_and, not_true_eq_false, not_false_eq_true, and_self, hi, z1, e1, e2]
    · rw [dbA, if_neg e1, if_neg e2]
      have e3 : ¬ i < 0 := by
        intro e
        rw [i_toInt_lt] at e
        rw [i_toInt_le] at hi
        have a1 : (0 : Int32).toInt = 0 := rfl
        have a2 : (-1 : Int32).toInt = -1 := rfl
        apply e1
        apply Int32.toInt_inj.1
        omega
      obtain ⟨j, hj, rfl⟩ := nI_of e3
      rw [nI_leI (by omega) hj] at e2
      rw [nI_clamp hj]
      have e5 := z4 j _ (List.getElem?_eq_getElem (show j < (dbF (fits P q r f fs) 100 0).length by omega))
      have e6 : (dbF (fits P q r f fs) 100 0).getD j 0 = (dbF (fits P q r f fs) 100 0)[j]'(by omega) := by
        rw [List.getD_eq_getElem?_getD, List.getElem?_eq_getElem (show j < (dbF (fits P q r f fs) 100 0).length by omega)]
        rfl
      rw [e6]
      simp (disch := omega) only [fc11_debts, qR, PK h.1, bnd, has_y h.1 (.inl rfl) h.2.1.1 b6 hf, cc, if_true, if_false, ↓reduceIte, and_true, true_and, and_false, false_and, not_true_eq_false, not_false_eq_true, and_self, hi, z1, e1, nI_leI, e2, PK h1.1, ldI_lo, A54 h1.1, nI_clamp, e5]
theorem debts_n (h : Sh σ) {n : Nat} (hn : mi σ 19 5 = nI n) (h6 : n ≤ 6) {x y : Int32} (hx : ¬ ∃ f : Nat, f < n ∧ x = nI f ∧ (-1 : Int32) ≤ y) : fc11_debts N 0 x y σ = some (-1, σ) := by
  have c : ¬ (1 : Int32) = 0 := by decide
  rcases nix x (n := n) (by omega) with q | ⟨i, hi, rfl⟩
  · simp (disch := omega) only [fc11_debts, qR, PK h, bnd, has_n h (.inl rfl) hn q, if_true, if_false, ↓reduceIte, and_true, true_and, and_false, false_and, not_true_eq_false, not_false_eq_true, and_self]
  · by_cases c1 : (-1 : Int32) ≤ y
    · exact absurd ⟨i, hi, rfl, c1⟩ hx
    · simp (disch := omega) only [fc11_debts, qR, PK h, bnd, has_y h (.inl rfl) hn h6 hi, c, c1, if_true, if_false, ↓reduceIte, and_true, true_and, and_false, false_and, not_true_eq_false, not_false_eq_true, and_self]
/-! which rain to ask for -/
def yesN (P : Pl) (q : PF) (r : Rw) (f v rain : Nat) : List Nat → Nat
  | [] => 0
  | x :: l => (if falY P q (rOwe r f x) rain f < v then 0 else 1) + yesN P q r f v rain l
theorem yesN_le (f v rain : Nat) : ∀ l : List Nat, yesN P q r f v rain l ≤ l.length
  | [] => Nat.le_refl _
  | x :: l => by
    have := yesN_le f v rain l
    rw [yesN, List.length_cons]
    split <;> omega
def apart (a n : Nat) : Nat := if n ≤ 2 * a then 2 * a - n else n - 2 * a
theorem abs_c (N : Nat) {a n : Nat} (σ : Me) (ha : a ≤ 1000) (hn : n ≤ 1000) : fMt_abs N (nI (2 * a) - nI n) σ = some (nI (apart a n), σ) := by
  unfold fMt_abs apart
  by_cases c : n ≤ 2 * a
  · rw [if_pos c, pk_sub c, if_pos (nI_pos' (by omega))]
  · rw [if_neg c]
    have e := pk_sub_toInt (a := 2 * a) (b := n) (by omega) (by omega)
    have a1 : (0 : Int32).toInt = 0 := rfl
    rw [if_neg (by rw [i_toInt_le, e, a1]; omega)]
    have e2 : -(nI (2 * a) - nI n) = nI (n - 2 * a) := by
      apply Int32.toInt_inj.1
      rw [fb_negI (by rw [e]; omega), e, nI_toInt (by omega)]
      omega
    rw [e2]
def akU (z : Bz) (c v : Nat) : Bz := match z with
  | none => some (c, v)
  | some p => if p.2 ≤ v then some p else some (c, v)
def akN (P : Pl) (q : PF) (r : Rw) (f v : Nat) (l : List Nat) : Nat → Nat → Bz → Bz
  | 0, _, z => z
  | m + 1, rain, z => akN P q r f v l m (rain + 1) (akU z rain (apart (yesN P q r f v rain l) l.length))
/-- the weights of the debts for a share -/
def WdC (τ : Me) (P : Pl) (q : PF) (r : Rw) (f s : Nat) (l : List Nat) (n : Nat) : Prop := ∀ i x, i < n → l[i]? = some x → mi τ 55 i = nI (gN P (rOwe r f x) f) ∧ ∃ d, mi τ 56 i = nI d ∧ Deq d (dN P q (rOwe r f x) s f) ∧ d ≤ 1000
def FdC (τ : Me) (l : List Nat) : Prop := ∀ i v, l[i]? = some v → mi τ 54 i = nI v
theorem weighDebts_c (h0 : Qc N σ P r q b) {f rain : Nat} {l : List Nat} (hf : f < pn P) (hr : rain ≤ 99) (hl : l.length ≤ 100) (hl9 : ∀ v ∈ l, v ≤ 999) (hN : 200 ≤ N) {τ0 : Me} (j1 : Fr (fX b) σ τ0) (jF : FdC τ0 l) (jL : ∃ y, y ≤ 999 ∧ LdC τ0 25 P (rOwe r f y)) :
    ∃ σ' : Me, fc11_weighDebts N 0 (nI f) (nI rain) (nI l.length) τ0 = some ((), σ') ∧ Fr (fX b) σ σ' ∧ FdC σ' l ∧ (∃ y, y ≤ 999 ∧ LdC σ' 25 P (rOwe r f y) ∧ SkY σ' P q (rOwe r f y) (rain / pn P)) ∧ WdC σ' P q r f (rain / pn P) l l.length := by
  have b6 := h0.2.2.1.1
  have b2 := h0.2.2.2.2.1
  have hR := h0.2.2.2.1
  have hs : rain / pn P ≤ 49 := by
    have : rain / pn P ≤ rain / 2 := Nat.div_le_div_left b2 (by decide)
    omega
  obtain ⟨y, hy, jL⟩ := jL
  have hτ0 := h0.fr j1.fc
  obtain ⟨τ1, d, w1, w2, w3, w4, w5, w6⟩ := weigh25 hτ0 jL (hR.owe hy) hr
  have x1 : fc11_weighDebts N 0 (nI f) (nI rain) (nI l.length) τ0 = fc11_weighDebts_15 N N (some 0) (nI f) (nI l.length) (nI 0) τ1 := by
    simp (disch := omega) only [fc11_weighDebts, qR, PK hτ0.1, bnd, w1]
    rfl
  rw [x1]
  refine lp (fun fu k τ => fc11_weighDebts_15 N fu (some 0) (nI f) (nI l.length) (nI k) τ) (fun k τ => Fr (fX b) σ τ ∧ FdC τ l ∧ (∃ y, y ≤ 999 ∧ LdC τ 25 P (rOwe r f y) ∧ SkY τ P q (rOwe r f y) (rain / pn P)) ∧ WdC τ P q r f (rain / pn P) l k) (fun o => ∃ σ' : Me, o = some ((), σ') ∧ Fr (fX b) σ σ' ∧ FdC σ' l ∧ (∃ y, y ≤ 999 ∧ LdC σ' 25 P (rOwe r f y) ∧ SkY σ' P q (rOwe r f y) (rain / pn P)) ∧ WdC σ' P q r f (rain / pn P) l l.length) l.length ?_ ?_ l.length 0 N τ1 (by omega) (by omega) ⟨j1.tr w2.gf, fun i v e => by rw [w2.i rfl]; exact jF i v e, ⟨y, hy, w6, d, w3, w4, w5⟩, fun i x hi => by omega⟩
  · rintro fu τ ⟨i1, i2, i3, i4⟩
    refine ⟨τ, ?_, i1, i2, i3, i4⟩
    have c : l.length ≤ l.length := Nat.le_refl _
    simp (disch := omega) only [fc11_weighDebts_15, nI_leI, c, if_true, if_false, ↓reduceIte, and_true, true_and, and_false, false_and, not_true_eq_false, not_false_eq_true, and_self]
  · rintro fu k τ hk ⟨i1, i2, ⟨y, hy, i3, i4⟩, i5⟩
    refine .inl ?_
    have hτ := h0.fr i1.fc
    have c : ¬ l.length ≤ k := by omega
    have ek := i2 k _ (List.getElem?_eq_getElem hk)
    generalize hx : l[k] = x at ek
    have hx9 : x ≤ 999 := hl9 x (by rw [← hx]; exact List.getElem_mem hk)
    have f1 : Fr (gX b) τ (setI τ 26 f (nI x)) := fr_I rfl (Fr.rf _ _)
    have h1 := hτ.fr f1.gc
    obtain ⟨τ2, v1, v2, v3, v4⟩ := reweigh_c h1 hf hx9 hs (set26 i3) (i4.fr (X := fun a _ => a == 26) (fr_I rfl (Fr.rf _ _)) (fun _ => ⟨rfl, rfl, rfl⟩))
    have h2 := h1.fr v2.gc
    obtain ⟨d2, a1, a2, a3⟩ := id v3
    obtain ⟨g1, g2⟩ := a1.2 f hf
    have f3 : Fr (fun a _ => a == 55 || a == 56) τ2 (setI (setI τ2 55 k (nI (gN P (rOwe r f x) f))) 56 k (nI (d2 f))) := fr_I rfl (fr_I rfl (Fr.rf _ _))
    have f3f : Fr (fX b) τ2 (setI (setI τ2 55 k (nI (gN P (rOwe r f x) f))) 56 k (nI (d2 f))) := fr_I rfl (fr_I rfl (Fr.rf _ _))
    refine ⟨setI (setI τ2 55 k (nI (gN P (rOwe r f x) f))) 56 k (nI (d2 f)), ?_, ((i1.tr f1.gf).tr v2.gf).tr f3f, fun i v e => ?_, ⟨x, hx9, v4.fr f3 (fun _ => ⟨rfl, rfl, rfl, rfl, rfl, rfl⟩), v3.fr f3 (fun _ => ⟨rfl, rfl, rfl⟩)⟩, fun i x' hi e => ?_⟩
    · have g2' : mi (setI τ2 55 k (nI (gN P (rOwe r f x) f))) 33 f = nI (d2 f) := by rw [mi_ne _ _ (by omega)]; exact g2
      simp (disch := omega) only [fc11_weighDebts_15, nI_leI, c, if_true, if_false, ↓reduceIte, and_true, true_and, and_false, false_and, not_true_eq_false, not_false_eq_true, and_self, qR, PK hτ.1, bnd, ldI_lo, A54 hτ.1, nI_clamp, ek, stI, A26 hτ.1, dr_setI, mr_setI, arr_setI, v1, PK h2.1, A32 h2.1, A33 h2.1, g1, A55 h2.1, A56 h2.1, g2', nI_1]
    · rw [f3.i rfl, v2.i rfl, mi_ne _ _ (by omega)]; exact i2 i v e
    · by_cases ei : i = k
      · subst ei
        rw [List.getElem?_eq_getElem hk, hx] at e
        cases e
        exact ⟨by simp (disch := omega) only [mi_ne, mi_eq], d2 f, by rw [mi_eq], a3 f hf⟩
      · obtain ⟨b1, d3, b2, b3⟩ := i5 i x' (by omega) e
        refine ⟨?_, d3, ?_, b3⟩
        · simp (disch := omega) only [mi_ne]
          rw [v2.i rfl, mi_ne _ _ (by omega)]; exact b1
        · simp (disch := omega) only [mi_ne]
          rw [v2.i rfl, mi_ne _ _ (by omega)]; exact b2
/-- all but one field are weighed -/
def SkE (σ : Me) (P : Pl) (q : PF) (r : Rw) (s f : Nat) : Prop := mi σ 31 6 = nI (pn P) ∧ ∃ d : Nat → Nat, ∀ k, k < pn P → k ≠ f → mi σ 32 k = nI (gN P r k) ∧ mi σ 33 k = nI (d k) ∧ Deq (d k) (dN P q r s k) ∧ d k ≤ 1000
theorem countYes_c (h0 : Qc N σ P r q b) {f rain v : Nat} {l : List Nat} (hf : f < pn P) (hr : rain ≤ 99) (hv : v ≤ 99) (hl : l.length ≤ 100) (hN : 200 ≤ N) {y : Nat} {τ0 : Me} (j1 : Fr (fX b) σ τ0) (jW : WdC τ0 P q r f (rain / pn P) l l.length) (jS : SkE τ0 P q (rOwe r f y) (rain / pn P) f) :
    ∃ σ' : Me, fc11_countYes N 0 (nI f) (nI rain) (nI v) (nI l.length) τ0 = some (nI (yesN P q r f v rain l), σ') ∧ Fr (fun a j => (a == 32 || a == 33) && j == f) τ0 σ' := by
  have b6 := h0.2.2.1.1
  have hP := h0.2.2.1
  have x1 : fc11_countYes N 0 (nI f) (nI rain) (nI v) (nI l.length) τ0 = fc11_countYes_6 N N (some 0) (nI f) (nI rain) (nI v) (nI l.length) (nI 0) (nI 0) τ0 := rfl
  rw [x1]
  have key : ∀ (m k fu acc : Nat) (τ : Me), k + m = l.length → m < fu → acc ≤ k → Fr (fun a j => (a == 32 || a == 33) && j == f) τ0 τ → ∃ σ' : Me, fc11_countYes_6 N fu (some 0) (nI f) (nI rain) (nI v) (nI l.length) (nI acc) (nI k) τ = some (nI (acc + yesN P q r f v rain (l.drop k)), σ') ∧ Fr (fun a j => (a == 32 || a == 33) && j == f) τ0 σ' := by
    intro m
    induction m with
    | zero =>
      intro k fu acc τ hk hfu hacc i1
      obtain ⟨fu, rfl⟩ : ∃ f, fu = f + 1 := ⟨fu - 1, by omega⟩
      refine ⟨τ, ?_, i1⟩
      have c : l.length ≤ k := by omega
      rw [List.drop_eq_nil_of_le c, yesN]
      simp (disch := omega) only [fc11_countYes_6, nI_leI, c, if_true, if_false, ↓reduceIte, and_true, true_and, and_false, false_and, not_true_eq_false, not_false_eq_true, and_self, Nat.add_zero]
    | succ m ih =>
      intro k fu acc τ hk hfu hacc i1
      obtain ⟨fu, rfl⟩ : ∃ f, fu = f + 1 := ⟨fu - 1, by omega⟩
      have c : ¬ l.length ≤ k := by omega
      have hkl : k < l.length := by omega
      have i1f : Fr (fX b) τ0 τ := i1.mono (fun a j e => by
        simp only [fX, gX, Bool.or_eq_false_iff, Bool.and_eq_false_iff, decide_eq_false_iff_not, beq_eq_false_iff_ne] at e ⊢
        omega)
      have hτ := h0.fr (j1.tr i1f).fc
      obtain ⟨b1, d, b2, b3, b4⟩ := jW k _ hkl (List.getElem?_eq_getElem hkl)
      rw [List.drop_eq_getElem_cons hkl]
      generalize l[k] = x at b1 b3 ⊢
      have e55 : mi τ 55 k = nI (gN P (rOwe r f x) f) := by rw [i1.i rfl]; exact b1
      have e56 : mi τ 56 k = nI d := by rw [i1.i rfl]; exact b2
      have f3 : Fr (fun a j => (a == 32 || a == 33) && j == f) τ (setI (setI τ 32 f (nI (gN P (rOwe r f x) f))) 33 f (nI d)) := fr_I (by simp) (fr_I (by simp) (Fr.rf _ _))
      have f3f : Fr (fX b) τ (setI (setI τ 32 f (nI (gN P (rOwe r f x) f))) 33 f (nI d)) := fr_I rfl (fr_I rfl (Fr.rf _ _))
      have h3 := hτ.fr f3f.fc
      obtain ⟨s6, d0, s7⟩ := jS
      have hsk : SkC (setI (setI τ 32 f (nI (gN P (rOwe r f x) f))) 33 f (nI d)) (gN P (rOwe r f x)) (fun k => if k = f then d else d0 k) (pn P) := by
        refine ⟨?_, fun k' hk' => ?_⟩
        · simp (disch := omega) only [mi_ne]; rw [i1.i rfl]; exact s6
        · show _ ∧ _ = nI (if k' = f then d else d0 k')
          by_cases e : k' = f
          · subst e
            rw [if_pos rfl]
            exact ⟨by simp (disch := omega) only [mi_ne, mi_eq], by rw [mi_eq]⟩
          · rw [if_neg e]
            obtain ⟨t1, t2, t3, t4⟩ := s7 k' hk' e
            have hn : ∀ a, ((a == 32 || a == 33) && k' == f) = false := fun a => by simp [e]
            refine ⟨?_, ?_⟩
            · simp (disch := omega) only [mi_ne]
              rw [i1.i (hn 32), t1, gN_owe (x := x) (y := y) e]
            · simp (disch := omega) only [mi_ne]
              rw [i1.i (hn 33)]; exact t2
      have hsy : ∀ k', k' < pn P → Deq (if k' = f then d else d0 k') (dN P q (rOwe r f x) (rain / pn P) k') ∧ (if k' = f then d else d0 k') ≤ 1000 := fun k' hk' => by
        by_cases e : k' = f
        · subst e; rw [if_pos rfl]; exact ⟨b3, b4⟩
        · rw [if_neg e, dN_owe (y := y) e]; exact (s7 k' hk' e).2.2
      have ef : fc9_fallOn N 31 (nI f) (nI rain) (setI (setI τ 32 f (nI (gN P (rOwe r f x) f))) 33 f (nI d)) = some (nI (falY P q (rOwe r f x) rain f), setI (setI τ 32 f (nI (gN P (rOwe r f x) f))) 33 f (nI d)) := by
        rw [fallOn_c h3.1 hsk hP.1 hf (fun f' _ => g_le P _ f') (fun f' hf' => (hsy f' hf').2) hr (by omega)]
        rw [fal_eq (fun k' hk' => (hsy k' hk').1) hr hf]
        rfl
      have hle := falY_le P q (rOwe r f x) rain f
      have e56' : mi (setI τ 32 f (nI (gN P (rOwe r f x) f))) 56 k = nI d := by rw [mi_ne _ _ (by omega)]; exact e56
      by_cases cv : falY P q (rOwe r f x) rain f < v
      · obtain ⟨σ', z1, z2⟩ := ih (k + 1) fu acc _ (by omega) (by omega) (by omega) (i1.tr f3)
        refine ⟨σ', ?_, z2⟩
        rw [yesN, if_pos cv, Nat.zero_add, ← z1]
        simp (disch := omega) only [fc11_countYes_6, fc11_countYes_67, nI_leI, c, if_true, if_false, ↓reduceIte, and_true, true_and, and_false, false_and, not_true_eq_false, not_false_eq_true, and_self, qR, PK hτ.1, bnd, ldI_lo, A55 hτ.1, A56 hτ.1, nI_clamp, e55, stI, A32 hτ.1, A33 hτ.1, dr_setI, mr_setI, arr_setI, e56', ef, nI_ltI, cv, nI_1]
      · obtain ⟨σ', z1, z2⟩ := ih (k + 1) fu (acc + 1) _ (by omega) (by omega) (by omega) (i1.tr f3)
        refine ⟨σ', ?_, z2⟩
        rw [yesN, if_neg cv, ← Nat.add_assoc, ← z1]
        simp (disch := omega) only [fc11_countYes_6, fc11_countYes_67, nI_leI, c, if_true, if_false, ↓reduceIte, and_true, true_and, and_false, false_and, not_true_eq_false, not_false_eq_true, and_self, qR, PK hτ.1, bnd, ldI_lo, A55 hτ.1, A56 hτ.1, nI_clamp, e55, stI, A32 hτ.1, A33 hτ.1, dr_setI, mr_setI, arr_setI, e56', ef, nI_ltI, cv, nI_1]
  have z := key l.length 0 N 0 τ0 (by omega) (by omega) (by omega) (Fr.rf _ _)
  rw [List.drop_zero, Nat.zero_add] at z
  exact z
def akL (z : Bz) : Int32 := match z with
  | none => nI 101
  | some p => nI p.2
theorem akU_c {z : Bz} {rain v : Nat} (hz : ∀ p, z = some p → p.2 ≤ 100) (hv : v ≤ 100) (K : Int32 → Int32 → Option (Int32 × Me)) : (if akL z ≤ nI v then K (zc z) (akL z) else K (nI rain) (nI v)) = K (zc (akU z rain v)) (akL (akU z rain v)) := by
  cases z with
  | none =>
    have c : ¬ akL none ≤ nI v := by
      show ¬ nI 101 ≤ nI v
      rw [nI_leI (by decide) (by omega)]; omega
    rw [if_neg c]
    rfl
  | some p =>
    have hp := hz p rfl
    by_cases c : p.2 ≤ v
    · have c1 : akL (some p) ≤ nI v := nI_le c (by omega)
      rw [if_pos c1]
      have : akU (some p) rain v = some p := by show (if p.2 ≤ v then some p else some (rain, v)) = some p; rw [if_pos c]
      rw [this]
    · have c1 : ¬ akL (some p) ≤ nI v := nI_ge (by omega) (by omega)
      rw [if_neg c1]
      have : akU (some p) rain v = some (rain, v) := by show (if p.2 ≤ v then some p else some (rain, v)) = some (rain, v); rw [if_neg c]
      rw [this]
      rfl
theorem apart_le {a n : Nat} (h : a ≤ n) (hn : n ≤ 100) : apart a n ≤ 100 := by
  unfold apart
  split <;> omega
theorem akU_ok {z : Bz} {rain v : Nat} (hz : ∀ p, z = some p → p.2 ≤ 100) (hv : v ≤ 100) : ∀ p, akU z rain v = some p → p.2 ≤ 100 := by
  intro p e
  cases z with
  | none => cases e; exact hv
  | some p' =>
    simp only [akU] at e
    split at e
    · cases e; exact hz _ rfl
    · cases e; exact hv
theorem ask45_c (h0 : Qc N σ P r q b) {f v : Nat} {l : List Nat} (hf : f < pn P) (hv : v ≤ 99) (hl : l.length ≤ 100) (hl9 : ∀ v ∈ l, v ≤ 999) (hN : 200 ≤ N) : ∀ (m rain fu : Nat) (z : Bz) (τ : Me), rain + m = 100 → m < fu → (∀ p, z = some p → p.2 ≤ 100) → Fr (fX b) σ τ → FdC τ l → (∃ y, y ≤ 999 ∧ LdC τ 25 P (rOwe r f y) ∧ (rain % pn P ≠ 0 → SkE τ P q (rOwe r f y) (rain / pn P) f ∧ WdC τ P q r f (rain / pn P) l l.length)) →
    ∃ σ' : Me, fc11_ask_45 N fu (some 0) (nI f) (nI v) (nI l.length) (zc z) (akL z) (nI rain) τ = some (zc (akN P q r f v l m rain z), σ') ∧ Fr (fX b) σ σ'
  | _, _, 0, _, _, _, h0, _, _, _, _ => absurd h0 (Nat.not_lt_zero _)
  | 0, rain, fu + 1, z, τ, hk, _, hz, i1, i2, i3 => by
    refine ⟨τ, ?_, i1⟩
    have c : 99 < rain := by omega
    simp (disch := omega) only [fc11_ask_45, y99, nI_ltI, c, if_true, if_false, ↓reduceIte, and_true, true_and, and_false, false_and, not_true_eq_false, not_false_eq_true, and_self, akN]
  | m + 1, rain, fu + 1, z, τ, hk, hfu, hz, i1, i2, i3 => by
    have hτ := h0.fr i1.fc
    have b6 := h0.2.2.1.1
    have b2 := h0.2.2.2.2.1
    have c : ¬ 99 < rain := by omega
    have hmod : rain % pn P < pn P := Nat.mod_lt _ (by omega)
    obtain ⟨y, hy, i3, i4⟩ := i3
    have mid : ∃ (τ1 : Me) (y1 : Nat), fc11_ask_45 N (fu + 1) (some 0) (nI f) (nI v) (nI l.length) (zc z) (akL z) (nI rain) τ = fc11_ask_73 N (fc11_ask_45 N fu) (some 0) (nI f) (nI v) (nI l.length) (zc z) (akL z) (nI rain) τ1 ∧ Fr (fX b) σ τ1 ∧ FdC τ1 l ∧ y1 ≤ 999 ∧ LdC τ1 25 P (rOwe r f y1) ∧ SkE τ1 P q (rOwe r f y1) (rain / pn P) f ∧ WdC τ1 P q r f (rain / pn P) l l.length := by
      by_cases hm : rain % pn P = 0
      · obtain ⟨τ1, w1, w2, w3, ⟨y1, w4, w5, w6⟩, w7⟩ := weighDebts_c h0 hf (show rain ≤ 99 by omega) hl hl9 hN i1 i2 ⟨y, hy, i3⟩
        obtain ⟨d, a1, a2, a3⟩ := w6
        refine ⟨τ1, y1, ?_, w2, w3, w4, w5, ⟨a1.1, d, fun k hk _ => ⟨(a1.2 k hk).1, (a1.2 k hk).2, a3 k hk⟩⟩, w7⟩
        have hm' := hm
        simp (disch := omega) only [fc11_ask_45, y99, nI_ltI, c, if_true, if_false, ↓reduceIte, and_true, true_and, and_false, false_and, not_true_eq_false, not_false_eq_true, and_self, qR, qI, PK hτ.1, bnd, hτ.2.1.1, rm_n, hm', nI_0, w1]
      · obtain ⟨e1, e2⟩ := i4 hm
        refine ⟨τ, y, ?_, i1, i2, hy, i3, e1, e2⟩
        have hm' : ¬ nI (rain % pn P) = 0 := nI_ne0 (by omega) (by omega)
        simp (disch := omega) only [fc11_ask_45, y99, nI_ltI, c, if_true, if_false, ↓reduceIte, and_true, true_and, and_false, false_and, not_true_eq_false, not_false_eq_true, and_self, qR, qI, PK hτ.1, bnd, hτ.2.1.1, rm_n, hm']
    obtain ⟨τ1, y1, m1, m2, m3, m4, m5, m6, m7⟩ := mid
    have hτ1 := h0.fr m2.fc
    obtain ⟨τ2, c1, c2⟩ := countYes_c h0 hf (show rain ≤ 99 by omega) hv hl hN m2 m7 m6
    have c2f : Fr (fX b) τ1 τ2 := c2.mono (fun a j e => by
      simp only [fX, gX, Bool.or_eq_false_iff, Bool.and_eq_false_iff, decide_eq_false_iff_not, beq_eq_false_iff_ne] at e ⊢
      omega)
    have hyes := yesN_le (P := P) (q := q) (r := r) f v rain l
    have hap := apart_le hyes hl
    have hnx : ((rain + 1) % pn P ≠ 0 → SkE τ2 P q (rOwe r f y1) ((rain + 1) / pn P) f ∧ WdC τ2 P q r f ((rain + 1) / pn P) l l.length) := by
      intro hne
      have hdiv : (rain + 1) / pn P = rain / pn P := by
        have h1 := Nat.div_add_mod rain (pn P)
        have h2 : rain + 1 = pn P * (rain / pn P) + (rain % pn P + 1) := by omega
        have h3 : rain % pn P + 1 < pn P := by
          rcases Nat.lt_or_ge (rain % pn P + 1) (pn P) with q | q
          · exact q
          · exfalso
            apply hne
            have h4 : rain % pn P + 1 = pn P := by omega
            rw [h2, h4, Nat.mul_add_mod, Nat.mod_self]
        rw [h2, Nat.mul_add_div (by omega), Nat.div_eq_of_lt h3, Nat.add_zero]
      rw [hdiv]
      refine ⟨⟨by rw [c2.i rfl]; exact m6.1, ?_⟩, fun i x hi e => ?_⟩
      · obtain ⟨-, d, a1⟩ := m6
        refine ⟨d, fun k hk hkf => ?_⟩
        have hn : ∀ a, ((a == 32 || a == 33) && k == f) = false := fun a => by simp [hkf]
        rw [c2.i (hn 32), c2.i (hn 33)]
        exact a1 k hk hkf
      · obtain ⟨b1, d, b2, b3⟩ := m7 i x hi e
        exact ⟨by rw [c2.i rfl]; exact b1, d, by rw [c2.i rfl]; exact b2, b3⟩
    obtain ⟨σ', z1, z2⟩ := ask45_c h0 hf hv hl hl9 hN m (rain + 1) fu (akU z rain (apart (yesN P q r f v rain l) l.length)) τ2 (by omega) (by omega) (akU_ok hz hap) (m2.tr c2f) (fun i v' e => by rw [c2.i rfl]; exact m3 i v' e) ⟨y1, m4, m5.fr c2 (fun _ => ⟨rfl, rfl, rfl, rfl, rfl, rfl⟩), hnx⟩
    refine ⟨σ', ?_, z2⟩
    rw [m1, akN, ← z1]
    have ab := abs_c N (a := yesN P q r f v rain l) (n := l.length) τ2 (by omega) (by omega)
    rw [← akU_c (rain := rain) hz hap (fun a b => fc11_ask_45 N fu (some 0) (nI f) (nI v) (nI l.length) a b (nI (rain + 1)) τ2)]
    simp (disch := omega) only [fc11_ask_73, fc11_ask_106, PK hτ1.1, bnd, c1, y2, pk_mul, ab, nI_1]
theorem ask_c (h : Qc N σ P r q b) {f v : Nat} {fs : List Fa} (hf : f < pn P) (hv : v ≤ 99) (hF : FcC σ fs) (hfs : fs.length ≤ 10) (hok : ∀ (k : Nat) (fa : Fa), fs[k]? = some fa → faOK (pn P) fa) (hN : 200 ≤ N) : ∃ σ' : Me, fc11_ask N 0 (nI f) (nI v) σ = some (if (dbF (fits P q r f fs) 100 0).length = 0 then -1 else zc (akN P q r f v (dbF (fits P q r f fs) 100 0) 100 0 none), σ') ∧ Fr (cX b) σ σ' := by
  obtain ⟨σ1, z1, z2, z3, z4⟩ := fitDebts_c h hf hF hfs hok hN
  have h1 := h.fr z2.fc
  have b6 := h.2.2.1.1
  obtain ⟨hl, hm⟩ := dbF_le (fits P q r f fs) 100 0
  have cc : ¬ (1 : Int32) = 0 := by decide
  have d1 := nI_pos (n := v) (by omega)
  by_cases e : (dbF (fits P q r f fs) 100 0).length = 0
  · refine ⟨σ1, ?_, z2.fc⟩
    rw [if_pos e]
    rw [e] at z1
    simp (disch := omega) only [fc11_ask, qR, PK h.1, bnd, has_y h.1 (.inl rfl) h.2.1.1 b6 hf, cc, if_true, if_false, ↓reduceIte, and_true, true_and, and_false, false_and, not_true_eq_false, not_false_eq_true, and_self, d1, y99, nI_leI, hv, z1, nI_0]
  · obtain ⟨σ', w1, w2⟩ := ask45_c h hf hv hl (fun x hx => by have := hm x hx; omega) hN 100 0 N none σ1 (by omega) (by omega) (fun p e => by cases e) z2 z4 (by
      obtain ⟨y, hy, hL⟩ := z3
      exact ⟨y, hy, hL, fun hne => absurd (Nat.zero_mod _) hne⟩)
    refine ⟨σ', ?_, w2.fc⟩
    rw [if_neg e, ← w1]
    have e' : ¬ nI (dbF (fits P q r f fs) 100 0).length = 0 := nI_ne0 (by omega) (by omega)
    simp (disch := omega) only [fc11_ask, qR, PK h.1, bnd, has_y h.1 (.inl rfl) h.2.1.1 b6 hf, cc, if_true, if_false, ↓reduceIte, and_true, true_and, and_false, false_and, not_true_eq_false, not_false_eq_true, and_self, d1, y99, nI_leI, hv, z1, e']
    rfl
theorem ask_n (h : Sh σ) {n : Nat} (hn : mi σ 19 5 = nI n) (h6 : n ≤ 6) {x y : Int32} (hx : ¬ ∃ f v : Nat, f < n ∧ v ≤ 99 ∧ x = nI f ∧ y = nI v) : fc11_ask N 0 x y σ = some (-1, σ) := by
  have c : ¬ (1 : Int32) = 0 := by decide
  rcases nix x (n := n) (by omega) with q | ⟨i, hi, rfl⟩
  · simp (disch := omega) only [fc11_ask, qR, PK h, bnd, has_n h (.inl rfl) hn q, if_true, if_false, ↓reduceIte, and_true, true_and, and_false, false_and, not_true_eq_false, not_false_eq_true, and_self]
  · by_cases c1 : y < 0
    · simp (disch := omega) only [fc11_ask, qR, PK h, bnd, has_y h (.inl rfl) hn h6 hi, c, c1, if_true, if_false, ↓reduceIte, and_true, true_and, and_false, false_and, not_true_eq_false, not_false_eq_true, and_self]
    · by_cases c2 : y ≤ 99
      · exfalso
        obtain ⟨w, hw, rfl⟩ := nI_of c1
        rw [y99, nI_leI hw (by decide)] at c2
        exact hx ⟨i, w, hi, c2, rfl, rfl⟩
      · simp (disch := omega) only [fc11_ask, qR, PK h, bnd, has_y h (.inl rfl) hn h6 hi, c, c1, c2, if_true, if_false, ↓reduceIte, and_true, true_and, and_false, false_and, not_true_eq_false, not_false_eq_true, and_self]
end QS
