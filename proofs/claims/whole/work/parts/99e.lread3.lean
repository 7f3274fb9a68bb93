/-! the class reads a whole law -/
def GdL (T : Tx) (p : Nat) (x : Pr) : Prop := match x with
  | .inl f => f ≤ T.1
  | .inr z => p + z.2.length ≤ z.1 ∧ p < z.1 ∧ z.1 ≤ T.1 ∧ ∀ c ∈ z.2, ciOK c
theorem pCls2_gd {T : Tx} {p q : Nat} (h : p + 2 ≤ q) (hq : q ≤ T.1) : GdL T p (pCls2 T q) := by
  unfold pCls2
  split
  · refine ((pUC_gd T 6).2 q hq).thn (Q := GdL T p) (fun a h => h) (fun r C h1 h2 h3 h4 => ?_)
    have hg := nx_ge T r
    split
    · rename_i e
      have hlt : nx T r < T.1 := chr_in (by omega)
      refine (pSum_gd T 6 (nx T r + 1) hlt).thn (Q := GdL T p) (fun a h => h) (fun r' D d1 d2 d3 d4 => ⟨?_, by show p < r'; omega, d3, ?_⟩)
      · simp only [List.length_append, List.length_cons, List.length_nil]; omega
      · intro c hc
        simp only [List.mem_append, List.mem_singleton] at hc
        rcases hc with ((hc | hc) | hc) | hc
        · exact (h4 c hc).ok
        · rw [hc]; exact .inr (.inr (.inl rfl))
        · exact (d4 c hc).ok
        · rw [hc]; exact .inr (.inl rfl)
    · exact nx_le h3
  · refine (pSum_gd T 6 q hq).thn (Q := GdL T p) (fun a h => h) (fun r' D d1 d2 d3 d4 => ⟨?_, by show p < r'; omega, d3, ?_⟩)
    · simp only [List.length_append, List.length_cons, List.length_nil]; omega
    · intro c hc
      simp only [List.mem_append, List.mem_singleton] at hc
      rcases hc with hc | hc
      · exact (d4 c hc).ok
      · rw [hc]; exact .inr (.inl rfl)
theorem pCls_gd {T : Tx} {p : Nat} (hp : p ≤ T.1) : GdL T p (pCls T p) := by
  unfold pCls
  have hg := nx_ge T p
  split
  · rename_i e
    have hlt : nx T p < T.1 := chr_in (by omega)
    have hg2 := nx_ge T (nx T p + 1)
    split
    · rename_i e2
      have hlt2 : nx T (nx T p + 1) < T.1 := chr_in (by omega)
      exact pCls2_gd (by omega) hlt2
    · exact nx_le hlt
  · exact nx_le hp
theorem GdL.thn {T : Tx} {p : Nat} {x : Pr} {f : Nat → List Ci → Pr} {Q : Pr → Prop} (h : GdL T p x) (hl : ∀ a, a ≤ T.1 → Q (.inl a)) (hf : ∀ r C, p + C.length ≤ r → p < r → r ≤ T.1 → (∀ c ∈ C, ciOK c) → Q (f r C)) : Q (thn x f) := by
  rcases x with a | ⟨r, C⟩
  · exact hl a h
  · exact hf r C h.1 h.2.1 h.2.2.1 h.2.2.2
def LwG (T : Tx) (x : Pr) : Prop := match x with
  | .inl f => f ≤ T.1
  | .inr z => z.2.length ≤ z.1 ∧ z.1 ≤ T.1 ∧ chr T z.1 = 0 ∧ ∀ c ∈ z.2, ciOK c
theorem pLawL_gd {T : Tx} : ∀ (m p : Nat) (A : List Ci), p ≤ T.1 → A.length ≤ p → (∀ c ∈ A, ciOK c) → LwG T (pLawL T m p A)
  | 0, p, A, hp, _, _ => hp
  | m + 1, p, A, hp, hA, hc => by
    unfold pLawL
    refine (pCls_gd hp).thn (Q := LwG T) (fun a h => h) (fun r C h1 h2 h3 h4 => ?_)
    have hg := nx_ge T r
    have hall : ∀ c ∈ A ++ C, ciOK c := fun c h => by
      rcases List.mem_append.mp h with h | h
      · exact hc c h
      · exact h4 c h
    split
    · rename_i e
      exact ⟨by show (A ++ C).length ≤ nx T r; rw [List.length_append]; omega, nx_le h3, e, hall⟩
    · split
      · rename_i e
        have hlt : nx T r < T.1 := chr_in (by omega)
        exact pLawL_gd m _ _ hlt (by rw [List.length_append]; omega) hall
      · exact nx_le h3
theorem pLaw_gd (T : Tx) : LwG T (pLaw T) := pLawL_gd 241 0 [] (Nat.zero_le _) (Nat.le_refl _) (fun c h => by cases h)
section LT
variable {N : Nat} {T : Tx}
theorem read15_c (hT : txOK T) (hN : 300 ≤ N) {σ0 : Me} : ∀ (m k p fu : Nat) (A : List Ci) (σ : Me), k + m = 241 → m < fu → RdC σ T p A → Fr lrX σ0 σ → ParC σ0 [] (pLawL T m p A) (fc4_read_15 N fu (some 11) (nI k) σ)
  | _, _, _, 0, _, _, _, h0, _, _ => absurd h0 (Nat.not_lt_zero _)
  | 0, k, p, fu + 1, A, σ, hk, _, hR, f => by
    rw [fc4_read_15, y240, if_pos (nI_lt (by omega) (by omega)), retZ0]
    exact ⟨σ, rfl, f, hR.2.2.1⟩
  | m + 1, k, p, fu + 1, A, σ, hk, h0, hR, f => by
    have hx := cls_c hT hN hR
    have hg2 := pCls_gd hR.2.2.2.2.1
    rw [fc4_read_15, y240, if_neg (nI_nlt (by omega) (by decide)), ld11 hR.1, bnd]
    unfold pLawL
    generalize pCls T p = x at hx hg2 ⊢
    rcases x with a | ⟨r, C⟩
    · obtain ⟨σ3, y1, y2, y3⟩ := hx
      rw [y1, bnd, if_pos rfl, retZ0]
      exact ⟨σ3, rfl, f.tr y2, y3⟩
    · obtain ⟨σ3, y1, y2, y3, y4⟩ := hx
      obtain ⟨g1, g2, g3, g4⟩ := hg2
      have hR3 : RdC σ3 T r (A ++ C) := hR.lx y2 y3 y4 g1 g3
      simp only at g1 g2 g3
      have hgr := nx_ge T r
      have hb := chr_lt hT (nx T r)
      obtain ⟨σ4, n1, n2, n3⟩ := next_c (N := N) hR3.1 hT hR3.2.1 hR3.2.2.1 hR3.2.2.2.2.1 hN
      have hR4 := hR3.ax n2 n3 hgr (nx_le g3)
      have f4 : Fr lrX σ0 σ4 := f.tr (y2.tr n2.al)
      rw [y1, bnd, if_neg one_z, lq0 hR3.1, bnd, (PR hR3.1).1, bnd, n1, bnd]
      show ParC σ0 [] (if chr T (nx T r) = 0 then _ else _) _
      by_cases c1 : chr T (nx T r) = 0
      · rw [if_pos c1, if_pos ((nI_ze (by omega)).mpr c1), retZ1]
        exact ⟨σ4, rfl, f4, n3, hR4.2.2.2.1⟩
      · obtain ⟨t1, t2⟩ := take_cc (N := N) (c := 59) hR4.1 hT hR4.2.1 hR4.2.2.1 hR4.2.2.2.2.1 hN (by decide)
        rw [nx_nx] at t1 t2
        rw [if_neg c1, if_neg (fun w => c1 ((nI_ze (by omega)).mp w)), lq0 hR4.1, bnd, (PR hR4.1).1, bnd, y59]
        by_cases c2 : chr T (nx T r) = 59
        · obtain ⟨σ5, w1, w2, w3⟩ := t1 c2
          have hlt : nx T r < T.1 := chr_in (by omega)
          rw [if_pos c2, w1, bnd, if_neg one_z, nI_1]
          exact read15_c hT hN m (k + 1) (nx T r + 1) fu (A ++ C) σ5 (by omega) (by omega) (hR4.ax w2 w3 (by omega) (by omega)) (f4.tr w2.al)
        · obtain ⟨σ5, w1, w2, w3⟩ := t2 c2
          rw [if_neg c2, w1, bnd, if_pos rfl, retZ0]
          exact ⟨σ5, rfl, f4.tr w2.al, w3⟩
theorem readL_c {σ : Me} (h : Sh σ) (hT : txOK T) (ht : TpC σ T) (hN : 300 ≤ N) : ParC σ [] (pLaw T) (fc4_read N 11 σ) := by
  have f : Fr lrX σ (setI (setI σ 1 2 (nI 0)) 11 2 (nI 0)) := fr_I rfl (fr_I rfl (Fr.rf _ _))
  have p2 : pI (setI σ 1 2 (nI 0)) 4 2 (some 11) (nI 0) = some (setI (setI σ 1 2 (nI 0)) 11 2 (nI 0)) := by simp only [pI, dr_setI, ld11 h, bnd]
  rw [fc4_read, lq0 h, bnd, y0, tp2 h, bnd, p2, bnd]
  refine read15_c hT hN 241 0 0 N [] _ (by omega) (by omega) ⟨f.sh lrX_f h, ht.lx f, ?_, ⟨mi_eq _ _ _ _, fun i x e => by cases e⟩, Nat.zero_le _, Nat.le_refl _⟩ f
  rw [mi_ne _ _ (by omega), mi_eq]
end LT
