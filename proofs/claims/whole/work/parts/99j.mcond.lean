/-! the reference reads units and conditions -/
section MJ
variable {N : Nat} {B : Prop} {L : Nat → Int32} {a b : Nat} {T : Tx}
/-- what is joined by & -/
theorem partL_m (hT : txOK T) (hN : 300 ≤ N) {g k : Nat} (hk : 2 ≤ k) {X : Nat → Pr} (hX : GdX T X) {G : Rc12_condition} (hY : RdM B L a b T WB g k X (fun σ => G.2.2 60 σ)) {σ : Me} {p : Nat} (hP : Ps B L a b T σ p g) {x : Pr} (hg : Gl T x) {o : Option (Int32 × Me)} (hx : ParM B L WB k σ x o) : ParM B L WB (k + 1) σ (thn x (fun r C => pLoop T oN X 240 r C)) (o.bind fun q => fc12_part_17 N G (some 60) q.1 q.2) := by
  refine chainP_m (W := WB) (F := fun fu v σ => fc12_part_18 N G fu (some 60) v σ) hT hN (Nat.le_refl _) (by omega) oN_x hX hY (fun fu f v σ h hw hf e11 => ?_) (fun fu p v σ hw hP => ?_) hP hg hx
  · show fc12_part_18 N G (fu + 1) (some 60) v σ = _
    rw [fc12_part_18, mq h e11, bnd, if_neg (nI_m1 (by omega)), retW hw]
  · obtain ⟨σ1, q1, q2, q3⟩ := look_m (N := N) hP hT hN
    have hb := chr_lt hT (nx T p)
    refine ⟨fun e => ?_, fun e => ?_⟩
    · simp only [oN, decide_eq_false_iff_not] at e
      refine ⟨σ1, ?_, q2, q3⟩
      show fc12_part_18 N G (fu + 1) (some 60) v σ = _
      rw [fc12_part_18, mq hP.1.1 hP.2.2.1, bnd, if_pos rfl, d60 hP.1.1, bnd, q1, bnd, if_neg (fun w => e ((lkI y38 hb (by decide) (by decide)).mp w)), retW hw]
    · simp only [oN, decide_eq_true_eq] at e
      obtain ⟨s1, s2, s3, s4⟩ := q3.step (chr_in (by omega))
      refine ⟨_, q2.tr s3, s4, fun w σ3 hy hw2 => ?_⟩
      obtain ⟨t, rfl⟩ := WB_of hw
      obtain ⟨u, rfl⟩ := WB_of hw2
      refine ⟨bI (t && u), ?_, WB_b _, fun _ _ _ => by rw [e, bI_and]⟩
      show fc12_part_18 N G (fu + 1) (some 60) (bI t) σ = fc12_part_18 N G fu (some 60) (bI (t && u)) σ3
      rw [fc12_part_18, mq hP.1.1 hP.2.2.1, bnd, if_pos rfl, d60 hP.1.1, bnd, q1, bnd, if_pos ((lkI y38 hb (by decide) (by decide)).mpr e), s1, bnd, s2, bnd, d60 s4.1.1, bnd, hy, bnd]
      cases t with
      | false => rw [if_pos (show bI false = 0 from rfl)]; rfl
      | true =>
        rw [if_neg (show ¬ bI true = 0 by decide)]
        cases u with
        | false => rw [if_pos (show bI false = 0 from rfl)]; rfl
        | true => rw [if_neg (show ¬ bI true = 0 by decide)]; rfl
/-- what is joined by | -/
theorem condL_m (hT : txOK T) (hN : 300 ≤ N) {g k : Nat} (hk : 2 ≤ k) {X : Nat → Pr} (hX : GdX T X) {G : Rc12_condition} (hY : RdM B L a b T WB g k X (fun σ => G.2.1 60 (0 : Int32) (0 : Int32) σ)) {σ : Me} {p : Nat} (hP : Ps B L a b T σ p g) {x : Pr} (hg : Gl T x) {o : Option (Int32 × Me)} (hx : ParM B L WB k σ x o) : ParM B L WB (k + 1) σ (thn x (fun r C => pLoop T oO X 240 r C)) (o.bind fun q => fc12_condition_7 N G N (some 60) q.1 q.2) := by
  refine chainP_m (W := WB) (F := fun fu v σ => fc12_condition_7 N G fu (some 60) v σ) hT hN (Nat.le_refl _) (by omega) oO_x hX hY (fun fu f v σ h hw hf e11 => ?_) (fun fu p v σ hw hP => ?_) hP hg hx
  · show fc12_condition_7 N G (fu + 1) (some 60) v σ = _
    rw [fc12_condition_7, mq h e11, bnd, if_neg (nI_m1 (by omega)), retW hw]
  · obtain ⟨σ1, q1, q2, q3⟩ := look_m (N := N) hP hT hN
    have hb := chr_lt hT (nx T p)
    refine ⟨fun e => ?_, fun e => ?_⟩
    · simp only [oO, decide_eq_false_iff_not] at e
      refine ⟨σ1, ?_, q2, q3⟩
      show fc12_condition_7 N G (fu + 1) (some 60) v σ = _
      rw [fc12_condition_7, mq hP.1.1 hP.2.2.1, bnd, if_pos rfl, d60 hP.1.1, bnd, q1, bnd, if_neg (fun w => e ((lkI y124 hb (by decide) (by decide)).mp w)), retW hw]
    · simp only [oO, decide_eq_true_eq] at e
      obtain ⟨s1, s2, s3, s4⟩ := q3.step (chr_in (by omega))
      refine ⟨_, q2.tr s3, s4, fun w σ3 hy hw2 => ?_⟩
      obtain ⟨t, rfl⟩ := WB_of hw
      obtain ⟨u, rfl⟩ := WB_of hw2
      refine ⟨bI (t || u), ?_, WB_b _, fun _ _ _ => by rw [e, bI_or]⟩
      show fc12_condition_7 N G (fu + 1) (some 60) (bI t) σ = fc12_condition_7 N G fu (some 60) (bI (t || u)) σ3
      rw [fc12_condition_7, mq hP.1.1 hP.2.2.1, bnd, if_pos rfl, d60 hP.1.1, bnd, q1, bnd, if_pos ((lkI y124 hb (by decide) (by decide)).mpr e), s1, bnd, s2, bnd, d60 s4.1.1, bnd, hy, bnd]
      cases t with
      | true => rw [if_neg (show ¬ bI true = 0 by decide)]; rfl
      | false =>
        rw [if_pos (show bI false = 0 from rfl)]
        cases u with
        | false => rw [if_pos (show bI false = 0 from rfl)]; rfl
        | true => rw [if_neg (show ¬ bI true = 0 by decide)]; rfl
theorem comp0_m (hT : txOK T) (hN : 300 ≤ N) {Z : Nat → Pr} (hZ : GdX T Z) {g k : Nat} (hk : 2 ≤ k) (hS : RdM B L a b T WA g k Z (fun σ => fc12_sum N 60 σ)) {σ : Me} {q : Nat} (hP : Ps B L a b T σ q g) : ParM B L WB (k + 1) σ (thn (Z q) (pCmp T Z)) (fc12_compares N 60 (0 : Int32) (0 : Int32) σ) := by
  have h2 := hT.1
  have hx := hS σ q hP
  have hg := hZ q hP.2.2.2.2
  simp only at hx
  rw [fc12_compares, if_pos rfl, d60 hP.1.1, bnd]
  generalize Z q = x at hx hg ⊢
  rcases x with d | ⟨r, D⟩
  · obtain ⟨w, σ3, y1, y2, y3, y4⟩ := hx
    have hd : d ≤ T.1 := hg
    rw [y1, bnd, fc12_compares_12, mq (hP.1.fr y2).1 y4, bnd, if_neg (nI_m1 (by omega)), retZ0]
    exact ⟨_, σ3, rfl, y2, .inl rfl, y4⟩
  · obtain ⟨w, σ3, y1, y2, y3, y4, y5, y6, y7⟩ := hx
    obtain ⟨g1, g2, g3, g4⟩ := hg
    rw [y1, bnd]
    exact (cmp_m hT hN hZ hk hS (hP.of y2 y4 y5 y6 g3) y7).fr y2 y6
theorem unit_m (hT : txOK T) (hN : 300 ≤ N) {Z : Nat → Pr} (hZ : GdX T Z) {R : Option ((Nat → Pr) × (Nat → Pr))} (hG : GdU T R) {G : Rc12_condition} {g k : Nat} (hk : 2 ≤ k) (hS : RdM B L a b T WA g k Z (fun σ => fc12_sum N 60 σ)) (h0 : R = none → g = 6) (h1 : ∀ X, R = some X → g < 6 ∧ RdM B L a b T WB (g + 1) (k + 1) X.1 (fun σ => G.2.2 60 σ) ∧ RdM B L a b T WB (g + 1) (k + 1) X.2 (fun σ => G.1 60 (0 : Int32) (0 : Int32) σ)) : RdM B L a b T WB g (k + 1) (pUnit T Z R) (fun σ => bc12_unit N G 60 σ) := by
  intro σ p hP
  obtain ⟨σ1, q1, q2, q3⟩ := look_m (N := N) hP hT hN
  have hb := chr_lt hT (nx T p)
  have h2 := hT.1
  have e12 : mi σ1 60 12 = mi σ 60 12 := q3.2.2.2.1.trans hP.2.2.2.1.symm
  show ParM B L WB (k + 1) σ (pUn T Z R (nx T p)) (bc12_unit N G 60 σ)
  refine ParM.fr (σ := σ1) ?_ q2 e12
  rw [bc12_unit, d60 hP.1.1, bnd, q1, bnd]
  unfold pUn
  by_cases c1 : chr T (nx T p) = 33
  · rw [if_pos c1, if_pos ((lkI y33 hb (by decide) (by decide)).mpr c1), d60 q3.1.1, bnd]
    have hlt : nx T p < T.1 := chr_in (by omega)
    cases hRe : R with
    | none =>
      have hg6 := h0 hRe
      subst hg6
      rw [goesIn_n q3, bnd, if_pos rfl, retZ0]
      exact ⟨_, _, rfl, (fails_m (N := N) q3).2.1, .inl rfl, (fails_m (N := N) q3).2.2⟩
    | some X =>
      obtain ⟨hg, hX, -⟩ := h1 X hRe
      obtain ⟨σ2, i1, i2, i3⟩ := goesIn_y (N := N) q3 hg hlt
      rw [i1, bnd, if_neg one_z, d60 i3.1.1, bnd]
      have hx := hX σ2 _ i3
      have hg2 := (hG X hRe).1 (nx T p + 1) (by omega)
      simp only at hx
      show ParM B L WB (k + 1) σ1 (thn (X.1 (nx T p + 1)) (fun r C => .inr (r, C ++ [.inr 33]))) _
      generalize X.1 (nx T p + 1) = x at hx hg2 ⊢
      rcases x with c | ⟨r, D⟩
      · obtain ⟨w, σ3, y1, y2, y3, y4⟩ := hx
        have hs3 := (i3.1.fr y2).1
        have e11 : mi (setI σ3 60 12 (mi σ3 60 12 - (1 : Int32))) 60 11 = nI c := by rw [mi_ne _ _ (by omega)]; exact y4
        rw [y1, bnd, mq hs3 rfl, bnd, mp hs3, bnd]
        obtain ⟨t, rfl⟩ := WB_of y3
        cases t with
        | false =>
          rw [if_pos (show bI false = 0 from rfl), retZ1]
          exact ⟨_, _, rfl, fr_I rfl (i2.tr y2), .inr rfl, e11⟩
        | true =>
          rw [if_neg (show ¬ bI true = 0 by decide), retZ0]
          exact ⟨_, _, rfl, fr_I rfl (i2.tr y2), .inl rfl, e11⟩
      · obtain ⟨w, σ3, y1, y2, y3, y4, y5, y6, y7⟩ := hx
        obtain ⟨g1, g2, g3, g4⟩ := hg2
        have P3 : Ps B L a b T σ3 r (g + 1) := i3.of y2 y4 y5 y6 g3
        obtain ⟨o1, o2, o3, o4⟩ := P3.out
        rw [y1, bnd, o1, bnd, o2, bnd]
        obtain ⟨t, rfl⟩ := WB_of y3
        have hV : B → Vl L (k + 1) (D ++ [.inr 33]) (bI (!t)) ∧ Bd (bI (!t)) := fun hB => ⟨by rw [← bI_not]; exact (y7 hB).1.not (by omega), Bd_b _⟩
        cases t with
        | false =>
          rw [if_pos (show bI false = 0 from rfl), retZ1]
          exact ⟨_, _, rfl, (i2.tr y2).tr o3, .inr rfl, o4.2.1, o4.2.2.1, o4.2.2.2.1.trans q3.2.2.2.1.symm, hV⟩
        | true =>
          rw [if_neg (show ¬ bI true = 0 by decide), retZ0]
          exact ⟨_, _, rfl, (i2.tr y2).tr o3, .inl rfl, o4.2.1, o4.2.2.1, o4.2.2.2.1.trans q3.2.2.2.1.symm, hV⟩
  · rw [if_neg c1, if_neg (fun w => c1 ((lkI y33 hb (by decide) (by decide)).mp w))]
    by_cases c2 : chr T (nx T p) = 40
    · rw [if_pos c2, if_pos ((lkI y40 hb (by decide) (by decide)).mpr c2), d60 q3.1.1, bnd]
      have hlt : nx T p < T.1 := chr_in (by omega)
      cases hRe : R with
      | none =>
        have hg6 := h0 hRe
        subst hg6
        rw [goesIn_n q3, bnd, if_pos rfl, retZ0]
        exact ⟨_, _, rfl, (fails_m (N := N) q3).2.1, .inl rfl, (fails_m (N := N) q3).2.2⟩
      | some X =>
        obtain ⟨hg, -, hX⟩ := h1 X hRe
        obtain ⟨σ2, i1, i2, i3⟩ := goesIn_y (N := N) q3 hg hlt
        rw [i1, bnd, if_neg one_z, d60 i3.1.1, bnd]
        have hx := hX σ2 _ i3
        have hg2 := (hG X hRe).2 (nx T p + 1) (by omega)
        simp only at hx
        show ParM B L WB (k + 1) σ1 (thn (X.2 (nx T p + 1)) (pCl T 41)) _
        generalize X.2 (nx T p + 1) = x at hx hg2 ⊢
        rcases x with c | ⟨r, D⟩
        · obtain ⟨w, σ3, y1, y2, y3, y4⟩ := hx
          have hc : c ≤ T.1 := hg2
          have hs3 := (i3.1.fr y2).1
          rw [y1, bnd, d60 hs3, bnd, takes_2 hs3 (by omega) y4, bnd, if_pos rfl, retZ0]
          exact ⟨_, _, rfl, i2.tr y2, .inl rfl, y4⟩
        · obtain ⟨w, σ3, y1, y2, y3, y4, y5, y6, y7⟩ := hx
          obtain ⟨g1, g2, g3, g4⟩ := hg2
          have P3 : Ps B L a b T σ3 r (g + 1) := i3.of y2 y4 y5 y6 g3
          obtain ⟨t1, t2⟩ := takes_m (N := N) (c := 41) P3 hT hN (by decide) (by decide)
          rw [y1, bnd, d60 P3.1.1, bnd, y41]
          show ParM B L WB (k + 1) σ1 (pCl T 41 r D) _
          unfold pCl
          by_cases c3 : chr T (nx T r) = 41
          · obtain ⟨σ4, w1, w2, w3⟩ := t1 c3
            obtain ⟨o1, o2, o3, o4⟩ := w3.out
            rw [if_pos c3, w1, bnd, if_neg one_z, o1, bnd, o2, bnd, retW y3]
            exact ⟨_, _, rfl, ((i2.tr y2).tr w2).tr o3, y3, o4.2.1, o4.2.2.1, o4.2.2.2.1.trans q3.2.2.2.1.symm, y7⟩
          · obtain ⟨σ4, w1, w2, w3⟩ := t2 c3
            rw [if_neg c3, w1, bnd, if_pos rfl, retZ0]
            exact ⟨_, _, rfl, (i2.tr y2).tr w2, .inl rfl, w3⟩
    · rw [if_neg c2, if_neg (fun w => c2 ((lkI y40 hb (by decide) (by decide)).mp w)), d60 q3.1.1, bnd]
      have hx := comp0_m hT hN hZ hk hS q3
      generalize thn (Z (nx T p)) (pCmp T Z) = x at hx ⊢
      rcases x with c | ⟨r, D⟩
      · obtain ⟨w, σ3, y1, y2, y3, y4⟩ := hx
        rw [y1, bnd, retW y3]
        exact ⟨w, σ3, rfl, y2, y3, y4⟩
      · obtain ⟨w, σ3, y1, y2, y3, y4⟩ := hx
        rw [y1, bnd, retW y3]
        exact ⟨w, σ3, rfl, y2, y3, y4⟩
theorem part_m (hT : txOK T) (hN : 300 ≤ N) {Z : Nat → Pr} (hZ : GdX T Z) {R : Option ((Nat → Pr) × (Nat → Pr))} (hG : GdU T R) {G : Rc12_condition} {g k : Nat} (hk : 2 ≤ k) (hU : RdM B L a b T WB g k (pUnit T Z R) (fun σ => G.2.2 60 σ)) : RdM B L a b T WB g (k + 1) (pTru T Z R) (fun σ => bc12_part N G 60 (0 : Int32) (0 : Int32) σ) := by
  intro σ p hP
  have e : bc12_part N G 60 (0 : Int32) (0 : Int32) σ = (G.2.2 60 σ).bind fun q => fc12_part_17 N G (some 60) q.1 q.2 := by
    rw [bc12_part, if_pos rfl, d60 hP.1.1, bnd]
  show ParM B L WB (k + 1) σ (pTru T Z R p) (bc12_part N G 60 (0 : Int32) (0 : Int32) σ)
  rw [e]
  exact partL_m hT hN hk (pUnit_gd hZ hG) hU hP (pUnit_gd hZ hG p hP.2.2.2.2).gl (hU σ p hP)
theorem cond_m (hT : txOK T) (hN : 300 ≤ N) {Z : Nat → Pr} (hZ : GdX T Z) {R : Option ((Nat → Pr) × (Nat → Pr))} (hG : GdU T R) {G : Rc12_condition} {g k : Nat} (hk : 2 ≤ k) (hU : RdM B L a b T WB g k (pTru T Z R) (fun σ => G.2.1 60 (0 : Int32) (0 : Int32) σ)) : RdM B L a b T WB g (k + 1) (pCndR T Z R) (fun σ => bc12_condition N G 60 (0 : Int32) (0 : Int32) σ) := by
  intro σ p hP
  have e : bc12_condition N G 60 (0 : Int32) (0 : Int32) σ = (G.2.1 60 (0 : Int32) (0 : Int32) σ).bind fun q => fc12_condition_7 N G N (some 60) q.1 q.2 := by
    rw [bc12_condition, d60 hP.1.1, bnd]
  show ParM B L WB (k + 1) σ (pCndR T Z R p) (bc12_condition N G 60 (0 : Int32) (0 : Int32) σ)
  rw [e]
  exact condL_m hT hN hk (pCndR_gd hZ hG).1 hU hP ((pCndR_gd hZ hG).1 p hP.2.2.2.2).gl (hU σ p hP)
theorem condD_m (hT : txOK T) (hN : 300 ≤ N) : ∀ (d D : Nat), d ≤ 6 → 3 * d + 3 ≤ D → RdM B L a b T WB (6 - d) (2 * d + 5) (pUC T d).1 (fun σ => (GRc12_condition N D).2.2 60 σ) ∧ RdM B L a b T WB (6 - d) (2 * d + 6) (pTru T (pSum T d) (ucR T d)) (fun σ => (GRc12_condition N D).2.1 60 (0 : Int32) (0 : Int32) σ) ∧ RdM B L a b T WB (6 - d) (2 * d + 7) (pUC T d).2 (fun σ => (GRc12_condition N D).1 60 (0 : Int32) (0 : Int32) σ)
  | d, D, hd, hD => by
    obtain ⟨D', rfl⟩ : ∃ D', D = D' + 3 := ⟨D - 3, by omega⟩
    rw [pUC_eq]
    have hi0 : ucR T d = none → 6 - d = 6 := by
      cases d with
      | zero => exact fun _ => rfl
      | succ d => exact fun e => by cases e
    have hi : ∀ D'', 3 * d ≤ D'' → ∀ X, ucR T d = some X → 6 - d < 6 ∧ RdM B L a b T WB (6 - d + 1) (2 * d + 5) X.1 (fun σ => (GRc12_condition N D'').2.2 60 σ) ∧ RdM B L a b T WB (6 - d + 1) (2 * d + 5) X.2 (fun σ => (GRc12_condition N D'').1 60 (0 : Int32) (0 : Int32) σ) := by
      intro D'' hD''
      cases d with
      | zero => exact fun X e => by cases e
      | succ d =>
        intro X e
        cases e
        have ih := condD_m hT hN d D'' (by omega) (by omega)
        rw [show 6 - (d + 1) + 1 = 6 - d by omega]
        exact ⟨by omega, fun σ p hP => (ih.1 σ p hP).up (by omega), fun σ p hP => (ih.2.2 σ p hP).up (by omega)⟩
    have hu : ∀ D'', 3 * d ≤ D'' → RdM B L a b T WB (6 - d) (2 * d + 5) (pUnit T (pSum T d) (ucR T d)) (fun σ => bc12_unit N (GRc12_condition N D'') 60 σ) := fun D'' hD'' => unit_m hT hN (pSum_gd T d) (ucR_gd T d) (by omega) (sumT_m hT hN hd) hi0 (hi D'' hD'')
    have hp : ∀ D'', 3 * d ≤ D'' → RdM B L a b T WB (6 - d) (2 * d + 6) (pTru T (pSum T d) (ucR T d)) (fun σ => bc12_part N (GRc12_condition N (D'' + 1)) 60 (0 : Int32) (0 : Int32) σ) := fun D'' hD'' => part_m hT hN (pSum_gd T d) (ucR_gd T d) (by omega) (hu D'' hD'')
    exact ⟨hu (D' + 2) (by omega), hp (D' + 1) (by omega), cond_m hT hN (pSum_gd T d) (ucR_gd T d) (by omega) (hp D' (by omega))⟩
termination_by d => d
end MJ
