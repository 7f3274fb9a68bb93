/-! the class reads a law: units, clauses, all of it -/
section LS
variable {N : Nat} {σ : Me} {T : Tx} {p : Nat} {A : List Ci}
theorem isCmp_c {c : Nat} (hc : c < 256) : fc4_isComparing N (nI c) σ = some (if oC_ c = true then 1 else 0, σ) := by
  unfold fc4_isComparing fc4_isComparing_18
  by_cases c1 : c = 61
  · rw [if_pos ((chI y61 hc (by decide)).mpr c1), retZ1, c1]; rfl
  · rw [if_neg (fun w => c1 ((chI y61 hc (by decide)).mp w))]
    by_cases c2 : c = 60
    · rw [if_pos ((chI y60 hc (by decide)).mpr c2), retZ1, c2]; rfl
    · rw [if_neg (fun w => c2 ((chI y60 hc (by decide)).mp w))]
      by_cases c3 : c = 62
      · rw [if_pos ((chI y62 hc (by decide)).mpr c3), retZ1, c3]; rfl
      · have e : oC_ c = false := by simp [oC_, c1, c2, c3]
        rw [if_neg (fun w => c3 ((chI y62 hc (by decide)).mp w)), retZ0, e]; rfl
theorem unit_c (hT : txOK T) (hN : 300 ≤ N) {Z : Nat → Pr} (hZ : GdX T Z) {R : Option ((Nat → Pr) × (Nat → Pr))} (hG : GdU T R) {G : Rc4_readCondition} {k : Nat} (hS : RdX T Z (fun σ => fc4_readSum N 11 (nI k) σ)) (h0 : R = none → k = 6) (h1' : ∀ X, R = some X → k < 6 ∧ RdX T X.1 (fun σ => G.2.2 11 (nI (k + 1)) σ) ∧ RdX T X.2 (fun σ => G.1 11 (nI (k + 1)) σ)) : RdX T (pUnit T Z R) (fun σ => bc4_readUnit N G 11 (nI k) σ) := by
  intro σ p A hR
  obtain ⟨σ1, q1, q2, q3⟩ := next_c (N := N) hR.1 hT hR.2.1 hR.2.2.1 hR.2.2.2.2.1 hN
  have h1 := q2.sh aX_f hR.1
  have hb := chr_lt hT (nx T p)
  have hg := nx_ge T p
  have hl := nx_le hR.2.2.2.2.1
  have h2 := hT.1
  have hR1 := hR.ax q2 q3 hg hl
  show ParC σ A (pUn T Z R (nx T p)) (bc4_readUnit N G 11 (nI k) σ)
  unfold pUn
  rw [bc4_readUnit, lq0 hR.1, bnd, (PR hR.1).1, bnd, q1, bnd]
  by_cases c1 : chr T (nx T p) = 33
  · rw [if_pos c1, if_pos ((chI y33 hb (by decide)).mpr c1), ld11 h1, bnd]
    have hlt : nx T p < T.1 := chr_in (by omega)
    cases hRe : R with
    | none =>
      have hk := h0 hRe
      rw [deeper_n (by omega) (by omega), bnd, if_pos rfl, retZ0]
      exact ⟨σ1, rfl, q2.al, q3⟩
    | some X =>
      obtain ⟨hk, hX, -⟩ := h1' X hRe
      have hs2 : Sh (setI σ1 1 2 (nI (nx T p + 1))) := h1
      have hR2 : RdC (setI σ1 1 2 (nI (nx T p + 1))) T (nx T p + 1) A := hR1.ax (fr_I rfl (Fr.rf _ _)) (mi_eq _ _ _ _) (by omega) (by omega)
      have f2 : Fr lrX σ (setI σ1 1 2 (nI (nx T p + 1))) := fr_I rfl q2.al
      rw [deeper_y h1 q3 hk, bnd, if_neg one_z, ld11 hs2, bnd, nI_1]
      have hx := hX _ _ _ hR2
      have hg2 := (hG X hRe).1 (nx T p + 1) (by omega)
      show ParC σ A (thn (X.1 (nx T p + 1)) (fun r C => .inr (r, C ++ [.inr 33]))) _
      simp only at hx
      generalize X.1 (nx T p + 1) = x at hx hg2 ⊢
      rcases x with a | ⟨r, D⟩
      · obtain ⟨σ3, y1, y2, y3⟩ := hx
        rw [y1, bnd, if_pos rfl, retZ0]
        exact ⟨σ3, rfl, f2.tr y2, y3⟩
      · obtain ⟨σ3, y1, y2, y3, y4⟩ := hx
        obtain ⟨g1, g2, g3, g4⟩ := hg2
        have hR3 : RdC σ3 T r (A ++ D) := hR2.lx y2 y3 y4 g1 g3
        simp only at g1 g2 g3
        have hlen : (A ++ D).length < 240 := by
          rw [List.length_append]
          have := hR.2.2.2.2.2
          omega
        obtain ⟨σ4, w1, w2, w3, w4⟩ := write_c (N := N) (c := .inr 33) (v := (-33 : Int32)) hR3.1 hR3.2.2.2.1 hlen rfl
        rw [y1, bnd, if_neg one_z, ld11 hR3.1, bnd, w1, bnd, if_neg one_z, retZ1]
        exact ⟨σ4, rfl, f2.tr (y2.tr w2), by rw [w3]; exact y3, by rw [← List.append_assoc]; exact w4⟩
  · rw [if_neg c1, if_neg (fun w => c1 ((chI y33 hb (by decide)).mp w))]
    by_cases c2 : chr T (nx T p) = 40
    · rw [if_pos c2, if_pos ((chI y40 hb (by decide)).mpr c2), ld11 h1, bnd]
      have hlt : nx T p < T.1 := chr_in (by omega)
      cases hRe : R with
      | none =>
        have hk := h0 hRe
        rw [deeper_n (by omega) (by omega), bnd, if_pos rfl, retZ0]
        exact ⟨σ1, rfl, q2.al, q3⟩
      | some X =>
        obtain ⟨hk, -, hX⟩ := h1' X hRe
        have hs2 : Sh (setI σ1 1 2 (nI (nx T p + 1))) := h1
        have hR2 : RdC (setI σ1 1 2 (nI (nx T p + 1))) T (nx T p + 1) A := hR1.ax (fr_I rfl (Fr.rf _ _)) (mi_eq _ _ _ _) (by omega) (by omega)
        have f2 : Fr lrX σ (setI σ1 1 2 (nI (nx T p + 1))) := fr_I rfl q2.al
        rw [deeper_y h1 q3 hk, bnd, if_neg one_z, ld11 hs2, bnd, nI_1]
        have hx := hX _ _ _ hR2
        have hg2 := (hG X hRe).2 (nx T p + 1) (by omega)
        show ParC σ A (thn (X.2 (nx T p + 1)) (pCl T 41)) _
        simp only at hx
        generalize X.2 (nx T p + 1) = x at hx hg2 ⊢
        rcases x with a | ⟨r, D⟩
        · obtain ⟨σ3, y1, y2, y3⟩ := hx
          rw [y1, bnd, if_pos rfl, retZ0]
          exact ⟨σ3, rfl, f2.tr y2, y3⟩
        · obtain ⟨σ3, y1, y2, y3, y4⟩ := hx
          obtain ⟨g1, g2, g3, g4⟩ := hg2
          have hR3 : RdC σ3 T r (A ++ D) := hR2.lx y2 y3 y4 g1 g3
          rw [y1, bnd, if_neg one_z, lq0 hR3.1, bnd, (PR hR3.1).1, bnd]
          obtain ⟨t1, t2⟩ := take_cc (N := N) (c := 41) hR3.1 hT hR3.2.1 hR3.2.2.1 hR3.2.2.2.2.1 hN (by decide)
          show ParC σ A (pCl T 41 r D) _
          unfold pCl
          rw [y41]
          by_cases c2 : chr T (nx T r) = 41
          · obtain ⟨σ4, w1, w2, w3⟩ := t1 c2
            rw [if_pos c2, w1, bnd, if_neg one_z, retZ1]
            exact ⟨σ4, rfl, f2.tr (y2.tr w2.al), w3, hR3.2.2.2.1.ax w2⟩
          · obtain ⟨σ4, w1, w2, w3⟩ := t2 c2
            rw [if_neg c2, w1, bnd, if_pos rfl, retZ0]
            exact ⟨σ4, rfl, f2.tr (y2.tr w2.al), w3⟩
    · rw [if_neg c2, if_neg (fun w => c2 ((chI y40 hb (by decide)).mp w)), ld11 h1, bnd]
      have hx := hS _ _ _ hR1
      have hg2 := hZ (nx T p) hl
      simp only at hx
      generalize Z (nx T p) = x at hx hg2 ⊢
      rcases x with a | ⟨r, D⟩
      · obtain ⟨σ3, y1, y2, y3⟩ := hx
        rw [y1, bnd, if_pos rfl, retZ0]
        exact ⟨σ3, rfl, q2.al.tr y2, y3⟩
      · obtain ⟨σ3, y1, y2, y3, y4⟩ := hx
        obtain ⟨g1, g2, g3, g4⟩ := hg2
        have hR3 : RdC σ3 T r (A ++ D) := hR1.lx y2 y3 y4 g1 g3
        simp only at g1 g2 g3
        obtain ⟨σ4, n1, n2, n3⟩ := next_c (N := N) hR3.1 hT hR3.2.1 hR3.2.2.1 hR3.2.2.2.2.1 hN
        have hs4 := n2.sh aX_f hR3.1
        have hb4 := chr_lt hT (nx T r)
        have hg4 := nx_ge T r
        have hR4 := hR3.ax n2 n3 hg4 (nx_le g3)
        rw [y1, bnd, if_neg one_z, lq0 hR3.1, bnd, (PR hR3.1).1, bnd, n1, bnd, isCmp_c hb4, bnd]
        show ParC σ A (pCmp T Z r D) _
        unfold pCmp
        by_cases c3 : oC_ (chr T (nx T r)) = true
        · have hlt : nx T r < T.1 := chr_in (oC_x.n0 c3)
          have hR5 : RdC (setI σ4 1 2 (nI (nx T r + 1))) T (nx T r + 1) (A ++ D) := hR4.ax (fr_I rfl (Fr.rf _ _)) (mi_eq _ _ _ _) (by omega) (by omega)
          have f5 : Fr lrX σ (setI σ4 1 2 (nI (nx T r + 1))) := fr_I rfl (q2.al.tr (y2.tr n2.al))
          rw [if_pos c3, if_pos c3, if_neg one_z, lq0 hs4, bnd, tq2 hs4 n3, bnd, tp2 hs4, bnd, nI_1, ld11 hR5.1, bnd]
          have hx := hS _ _ _ hR5
          have hg2 := hZ (nx T r + 1) (by omega)
          simp only at hx
          generalize Z (nx T r + 1) = x at hx hg2 ⊢
          rcases x with a | ⟨r', D'⟩
          · obtain ⟨σ6, z1, z2, z3⟩ := hx
            rw [z1, bnd, if_pos rfl, retZ0]
            exact ⟨σ6, rfl, f5.tr z2, z3⟩
          · obtain ⟨σ6, z1, z2, z3, z4⟩ := hx
            obtain ⟨g5, g6, g7, g8⟩ := hg2
            have hR6 : RdC σ6 T r' (A ++ D ++ D') := hR5.lx z2 z3 z4 g5 g7
            simp only at g5 g6 g7
            have hlen : ((A ++ D) ++ D').length < 240 := by
              rw [List.length_append, List.length_append]
              have := hR.2.2.2.2.2
              omega
            obtain ⟨σ7, w1, w2, w3, w4⟩ := write_c (N := N) (c := .inr (chr T (nx T r))) (v := -nI (chr T (nx T r))) hR6.1 hR6.2.2.2.1 hlen rfl
            rw [z1, bnd, if_neg one_z, ld11 hR6.1, bnd, w1, bnd, if_neg one_z, retZ1]
            refine ⟨σ7, rfl, f5.tr (z2.tr w2), by rw [w3]; exact z3, ?_⟩
            have eA : A ++ (D ++ D' ++ [Sum.inr (chr T (nx T r))]) = A ++ D ++ D' ++ [Sum.inr (chr T (nx T r))] := by simp only [List.append_assoc]
            show CdW σ7 (A ++ (D ++ D' ++ [Sum.inr (chr T (nx T r))]))
            rw [eA]; exact w4
        · rw [if_neg c3, if_neg c3, if_pos rfl, retZ0]
          exact ⟨σ4, rfl, q2.al.tr (y2.tr n2.al), n3⟩
/-! nesting -/
theorem sumD_c (hT : txOK T) (hN : 300 ≤ N) : ∀ (d D : Nat), d ≤ 6 → 3 * d + 3 ≤ D → RdX T (pSum T d) (fun σ => (GRc4_readAtom N D).2.1 11 (nI (6 - d)) σ)
  | d, D, hd, hD => by
    obtain ⟨D', rfl⟩ : ∃ D', D = D' + 3 := ⟨D - 3, by omega⟩
    rw [pSum_eq]
    have hi : InC T (sumR T d) (6 - d) (fun σ => (GRc4_readAtom N D').2.1 11 (nI (6 - d + 1)) σ) := by
      cases d with
      | zero => exact ⟨fun _ => rfl, fun X e => by cases e⟩
      | succ d =>
        refine ⟨fun e => (by cases e), fun X e => ?_⟩
        cases e
        refine ⟨by omega, ?_⟩
        have ih := sumD_c hT hN d D' (by omega) (by omega)
        rw [show 6 - (d + 1) + 1 = 6 - d by omega]
        exact ih
    exact sum_r_c hT hN (sumR_gd T d) (term_c hT hN (sumR_gd T d) (atom_c hT hN (sumR_gd T d) hi))
termination_by d => d
theorem sumT_c (hT : txOK T) (hN : 300 ≤ N) {d : Nat} (hd : d ≤ 6) : RdX T (pSum T d) (fun σ => fc4_readSum N 11 (nI (6 - d)) σ) := sumD_c hT hN d 64 hd (by omega)
theorem condD_c (hT : txOK T) (hN : 300 ≤ N) : ∀ (d D : Nat), d ≤ 6 → 3 * d + 3 ≤ D → RdX T (pUC T d).1 (fun σ => (GRc4_readCondition N D).2.2 11 (nI (6 - d)) σ) ∧ RdX T (pUC T d).2 (fun σ => (GRc4_readCondition N D).1 11 (nI (6 - d)) σ)
  | d, D, hd, hD => by
    obtain ⟨D', rfl⟩ : ∃ D', D = D' + 3 := ⟨D - 3, by omega⟩
    rw [pUC_eq]
    have hi0 : ucR T d = none → 6 - d = 6 := by
      cases d with
      | zero => exact fun _ => rfl
      | succ d => exact fun e => by cases e
    have hi : ∀ D'', 3 * d ≤ D'' → ∀ X, ucR T d = some X → 6 - d < 6 ∧ RdX T X.1 (fun σ => (GRc4_readCondition N D'').2.2 11 (nI (6 - d + 1)) σ) ∧ RdX T X.2 (fun σ => (GRc4_readCondition N D'').1 11 (nI (6 - d + 1)) σ) := by
      intro D'' hD''
      cases d with
      | zero => exact fun X e => by cases e
      | succ d =>
        intro X e
        cases e
        have ih := condD_c hT hN d D'' (by omega) (by omega)
        rw [show 6 - (d + 1) + 1 = 6 - d by omega]
        exact ⟨by omega, ih⟩
    have hu : ∀ D'', 3 * d ≤ D'' → RdX T (pUnit T (pSum T d) (ucR T d)) (fun σ => bc4_readUnit N (GRc4_readCondition N D'') 11 (nI (6 - d)) σ) := fun D'' hD'' => unit_c hT hN (pSum_gd T d) (ucR_gd T d) (sumT_c hT hN hd) hi0 (hi D'' hD'')
    exact ⟨hu (D' + 2) (by omega), cond_c hT hN (pSum_gd T d) (ucR_gd T d) (truth_c hT hN (pSum_gd T d) (ucR_gd T d) (hu D' (by omega)))⟩
termination_by d => d
theorem condT_c (hT : txOK T) (hN : 300 ≤ N) : RdX T (pUC T 6).2 (fun σ => fc4_readCondition N 11 (nI 0) σ) := (condD_c hT hN 6 64 (by decide) (by decide)).2
/-! clauses -/
theorem isCond8_c (hT : txOK T) (h : Sh σ) (ht : TpC σ T) : ∀ (m p fu : Nat), p + m = T.1 → m < fu → fc4_isConditional_8 N fu (some 11) (nI p) σ = some (if cnd T m p = true then 1 else 0, σ)
  | _, _, 0, _, h0 => absurd h0 (Nat.not_lt_zero _)
  | 0, p, fu + 1, hm, _ => by
    have h2 := hT.1
    rw [fc4_isConditional_8, lq0 h, bnd, tq1 h ht, bnd, if_pos (nI_le (by omega) (by omega)), retZ0]; rfl
  | m + 1, p, fu + 1, hm, h0 => by
    have h2 := hT.1
    have hb := chr_lt hT p
    rw [fc4_isConditional_8, lq0 h, bnd, tq1 h ht, bnd, if_neg (nI_ge (by omega) (by omega)), bnd, (PR h).1, bnd, signAt_c h hT ht (by omega), bnd]
    unfold cnd
    by_cases c1 : chr T p = 59
    · rw [if_pos ((chI y59 hb (by decide)).mpr c1), if_pos c1, retZ0]; rfl
    · rw [if_neg (fun w => c1 ((chI y59 hb (by decide)).mp w)), if_neg c1]
      by_cases c2 : chr T p = 33
      · rw [if_pos ((chI y33 hb (by decide)).mpr c2), c2, retZ1]; rfl
      · rw [if_neg (fun w => c2 ((chI y33 hb (by decide)).mp w))]
        by_cases c3 : chr T p = 40
        · rw [if_pos ((chI y40 hb (by decide)).mpr c3), c3, retZ1]; rfl
        · rw [if_neg (fun w => c3 ((chI y40 hb (by decide)).mp w)), isCmp_c hb, bnd]
          have e : cndB (chr T p) = oC_ (chr T p) := by simp [cndB, c2, c3]
          rw [e]
          by_cases c4 : oC_ (chr T p) = true
          · rw [if_pos c4, if_pos c4, if_neg one_z, retZ1]; rfl
          · rw [if_neg c4, if_neg c4, if_pos rfl, nI_1]
            exact isCond8_c hT h ht m (p + 1) fu (by omega) (by omega)
theorem isCond_c (hT : txOK T) (hN : 300 ≤ N) (hR : RdC σ T p A) : fc4_isConditional N 11 σ = some (if cnd T (T.1 - p) p = true then 1 else 0, σ) := by
  have h2 := hT.1
  have h3 := hR.2.2.2.2.1
  rw [fc4_isConditional, lq0 hR.1, bnd, tq2 hR.1 hR.2.2.1, bnd]
  exact isCond8_c hT hR.1 hR.2.1 _ _ _ (by omega) (by omega)
/-- a clause's code may have one sign more than it has between its marks -/
theorem cls62_c (hT : txOK T) (hN : 300 ≤ N) (hR : RdC σ T p A) (hA : A.length + 1 ≤ p) : ParC σ A (thn (pSum T 6 p) pEnd) (fc4_readClause_62 N (some 11) σ) := by
  have h2 := hT.1
  have hx := sumT_c hT hN (d := 6) (by decide) σ p A hR
  have hg2 := pSum_gd T 6 p hR.2.2.2.2.1
  simp only at hx
  rw [fc4_readClause_62, ld11 hR.1, bnd]
  have hx : ParC σ A (pSum T 6 p) (fc4_readSum N 11 (0 : Int32) σ) := hx
  generalize pSum T 6 p = x at hx hg2 ⊢
  rcases x with a | ⟨r, D⟩
  · obtain ⟨σ3, y1, y2, y3⟩ := hx
    rw [y1, bnd, if_pos rfl, retZ0]
    exact ⟨σ3, rfl, y2, y3⟩
  · obtain ⟨σ3, y1, y2, y3, y4⟩ := hx
    obtain ⟨g1, g2, g3, g4⟩ := hg2
    have hR3 : RdC σ3 T r (A ++ D) := hR.lx y2 y3 y4 g1 g3
    simp only at g1 g2 g3
    have hlen : (A ++ D).length < 240 := by
      rw [List.length_append]
      omega
    obtain ⟨σ4, w1, w2, w3, w4⟩ := write_c (N := N) (c := .inr 59) (v := (-59 : Int32)) hR3.1 hR3.2.2.2.1 hlen rfl
    rw [y1, bnd, if_neg one_z, ld11 hR3.1, bnd, w1, bnd, if_neg one_z, retZ1]
    exact ⟨σ4, rfl, y2.tr w2, by rw [w3]; exact y3, by rw [← List.append_assoc]; exact w4⟩
theorem cls_c (hT : txOK T) (hN : 300 ≤ N) (hR : RdC σ T p A) : ParC σ A (pCls T p) (fc4_readClause N 11 σ) := by
  have h2 := hT.1
  have hg := nx_ge T p
  obtain ⟨t1, t2⟩ := take_cc (N := N) (c := 121) hR.1 hT hR.2.1 hR.2.2.1 hR.2.2.2.2.1 hN (by decide)
  unfold pCls
  rw [fc4_readClause, lq0 hR.1, bnd, (PR hR.1).1, bnd, y121]
  by_cases c1 : chr T (nx T p) = 121
  · obtain ⟨σ1, q1, q2, q3⟩ := t1 c1
    have hlt : nx T p < T.1 := chr_in (by omega)
    have hR1 := hR.ax q2 q3 (by omega) (by omega)
    have hg1 := nx_ge T (nx T p + 1)
    obtain ⟨u1, u2⟩ := take_cc (N := N) (c := 58) hR1.1 hT hR1.2.1 hR1.2.2.1 hR1.2.2.2.2.1 hN (by decide)
    rw [if_pos c1, q1, bnd, if_neg one_z, lq0 hR1.1, bnd, (PR hR1.1).1, bnd, y58]
    by_cases c2 : chr T (nx T (nx T p + 1)) = 58
    · obtain ⟨σ2, v1, v2, v3⟩ := u1 c2
      have hlt2 : nx T (nx T p + 1) < T.1 := chr_in (by omega)
      have hR2 := hR1.ax v2 v3 (by omega) (by omega)
      have f2 : Fr lrX σ σ2 := q2.al.tr v2.al
      have hA := hR.2.2.2.2.2
      rw [if_pos c2, v1, bnd, if_neg one_z, ld11 hR2.1, bnd, isCond_c hT hN hR2, bnd]
      generalize hq : nx T (nx T p + 1) + 1 = q at hR2 ⊢
      unfold pCls2
      by_cases c3 : cnd T (T.1 - q) q = true
      · rw [if_pos c3, if_pos c3, if_neg one_z, ld11 hR2.1, bnd]
        have hx := condT_c hT hN σ2 q A hR2
        have hg2 := (pUC_gd T 6).2 q hR2.2.2.2.2.1
        have hx : ParC σ2 A ((pUC T 6).2 q) (fc4_readCondition N 11 (0 : Int32) σ2) := hx
        generalize (pUC T 6).2 q = x at hx hg2 ⊢
        rcases x with a | ⟨r, D⟩
        · obtain ⟨σ3, y1, y2, y3⟩ := hx
          rw [y1, bnd, if_pos rfl, retZ0]
          exact ⟨σ3, rfl, f2.tr y2, y3⟩
        · obtain ⟨σ3, y1, y2, y3, y4⟩ := hx
          obtain ⟨g1, g2, g3, g4⟩ := hg2
          have hR3 : RdC σ3 T r (A ++ D) := hR2.lx y2 y3 y4 g1 g3
          simp only at g1 g2 g3
          have hgr := nx_ge T r
          obtain ⟨s1, s2⟩ := take_cc (N := N) (c := 63) hR3.1 hT hR3.2.1 hR3.2.2.1 hR3.2.2.2.2.1 hN (by decide)
          rw [y1, bnd, if_neg one_z, lq0 hR3.1, bnd, (PR hR3.1).1, bnd, y63]
          show ParC σ A (if chr T (nx T r) = 63 then _ else _) _
          by_cases c4 : chr T (nx T r) = 63
          · obtain ⟨σ4, w1, w2, w3⟩ := s1 c4
            have hlt4 : nx T r < T.1 := chr_in (by omega)
            have hR4 := hR3.ax w2 w3 (by omega) (by omega)
            have hlen : (A ++ D).length < 240 := by
              rw [List.length_append]
              omega
            obtain ⟨σ5, x1, x2, x3, x4⟩ := write_c (N := N) (c := .inr 63) (v := -nI 63) hR4.1 hR4.2.2.2.1 hlen rfl
            have hR5 : RdC σ5 T (nx T r + 1) (A ++ D ++ [.inr 63]) := ⟨x2.sh lrX_f hR4.1, hR4.2.1.lx x2, by rw [x3]; exact w3, x4, hR4.2.2.2.2.1, by
              rw [List.length_append, List.length_append]
              simp only [List.length_cons, List.length_nil]
              omega⟩
            have k := cls62_c hT hN hR5 (by
              rw [List.length_append, List.length_append]
              simp only [List.length_cons, List.length_nil]
              omega)
            rw [if_pos c4, w1, bnd, if_neg one_z, ld11 hR4.1, bnd, x1, bnd]
            have f5 : Fr lrX σ σ5 := f2.tr (y2.tr (w2.al.tr x2))
            generalize pSum T 6 (nx T r + 1) = x at k ⊢
            rcases x with a | ⟨r', D'⟩
            · obtain ⟨σ6, z1, z2, z3⟩ := k
              exact ⟨σ6, z1, f5.tr z2, z3⟩
            · obtain ⟨σ6, z1, z2, z3, z4⟩ := k
              refine ⟨σ6, z1, f5.tr z2, z3, ?_⟩
              have eA : A ++ (D ++ [Sum.inr 63] ++ D' ++ [Sum.inr 59]) = A ++ D ++ [Sum.inr 63] ++ (D' ++ [Sum.inr 59]) := by simp only [List.append_assoc]
              show CdW σ6 (A ++ (D ++ [Sum.inr 63] ++ D' ++ [Sum.inr 59]))
              rw [eA]; exact z4
          · obtain ⟨σ4, w1, w2, w3⟩ := s2 c4
            rw [if_neg c4, w1, bnd, if_pos rfl, retZ0]
            exact ⟨σ4, rfl, f2.tr (y2.tr w2.al), w3⟩
      · rw [if_neg c3, if_neg c3, if_pos rfl]
        exact (cls62_c hT hN hR2 (by omega)).fr (C := []) f2
    · obtain ⟨σ2, v1, v2, v3⟩ := u2 c2
      rw [if_neg c2, v1, bnd, if_pos rfl, retZ0]
      exact ⟨σ2, rfl, q2.al.tr v2.al, v3⟩
  · obtain ⟨σ1, q1, q2, q3⟩ := t2 c1
    rw [if_neg c1, q1, bnd, if_pos rfl, retZ0]
    exact ⟨σ1, rfl, q2.al, q3⟩
end LS
