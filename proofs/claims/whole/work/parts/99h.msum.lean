/-! the reference reads sums -/
def ParM (B : Prop) (L : Nat → Int32) (W : Int32 → Prop) (k : Nat) (σ : Me) (x : Pr) (o : Option (Int32 × Me)) : Prop := match x with
  | .inl f => ∃ (v : Int32) (σ' : Me), o = some (v, σ') ∧ Fr paX σ σ' ∧ W v ∧ mi σ' 60 11 = nI f
  | .inr z => ∃ (v : Int32) (σ' : Me), o = some (v, σ') ∧ Fr paX σ σ' ∧ W v ∧ mi σ' 60 10 = nI z.1 ∧ mi σ' 60 11 = -1 ∧ mi σ' 60 12 = mi σ 60 12 ∧ (B → Vl L k z.2 v ∧ Bd v)
def WA (_ : Int32) : Prop := True
def WB (v : Int32) : Prop := v = 0 ∨ v = 1
def RdM (B : Prop) (L : Nat → Int32) (a b : Nat) (T : Tx) (W : Int32 → Prop) (g k : Nat) (X : Nat → Pr) (F : Me → Option (Int32 × Me)) : Prop := ∀ (σ : Me) (p : Nat), Ps B L a b T σ p g → ParM B L W k σ (X p) (F σ)
theorem Bd_jn (x : Int32) (s : Nat) (y : Int32) : Bd (jn x s y) := by
  unfold jn
  repeat' split
  all_goals exact Bd_clm _
theorem ParM.fr {B : Prop} {L : Nat → Int32} {W : Int32 → Prop} {k : Nat} {σ0 σ : Me} {x : Pr} {o : Option (Int32 × Me)} (h : ParM B L W k σ x o) (f : Fr paX σ0 σ) (e : mi σ 60 12 = mi σ0 60 12) : ParM B L W k σ0 x o := by
  rcases x with a | z
  · obtain ⟨v, σ', h1, h2, h3⟩ := h
    exact ⟨v, σ', h1, f.tr h2, h3⟩
  · obtain ⟨v, σ', h1, h2, h3, h4, h5, h6, h7⟩ := h
    exact ⟨v, σ', h1, f.tr h2, h3, h4, h5, h6.trans e, h7⟩
theorem ParM.up {B : Prop} {L : Nat → Int32} {W : Int32 → Prop} {k k' : Nat} {σ : Me} {x : Pr} {o : Option (Int32 × Me)} (h : ParM B L W k σ x o) (hk : k ≤ k') : ParM B L W k' σ x o := by
  rcases x with a | z
  · exact h
  · obtain ⟨v, σ', h1, h2, h3, h4, h5, h6, h7⟩ := h
    exact ⟨v, σ', h1, h2, h3, h4, h5, h6, fun hB => ⟨(h7 hB).1.up hk, (h7 hB).2⟩⟩
theorem Ps.of {B : Prop} {L : Nat → Int32} {a b : Nat} {T : Tx} {σ σ' : Me} {p q g : Nat} (h : Ps B L a b T σ p g) (f : Fr paX σ σ') (h1 : mi σ' 60 10 = nI q) (h2 : mi σ' 60 11 = -1) (h3 : mi σ' 60 12 = mi σ 60 12) (h4 : q ≤ T.1) : Ps B L a b T σ' q g := ⟨h.1.fr f, h1, h2, h3.trans h.2.2.2.1, h4⟩
/-- a reading stands within the text -/
def Gl (T : Tx) (x : Pr) : Prop := match x with
  | .inl f => f ≤ T.1
  | .inr z => z.1 ≤ T.1
theorem Gd.gl {T : Tx} {p : Nat} {x : Pr} (h : Gd T p x) : Gl T x := by
  rcases x with a | z
  · exact h
  · exact h.2.2.1
section MU
variable {N : Nat} {B : Prop} {L : Nat → Int32} {a b : Nat} {T : Tx} {W : Int32 → Prop}
theorem loopP_m (hT : txOK T) {g k kx : Nat} (hk1 : kx + 1 ≤ k) (hk3 : 3 ≤ k) {ops : Nat → Bool} (ho : OpX ops) {X : Nat → Pr} (hX : GdX T X) {Y : Me → Option (Int32 × Me)} (hY : RdM B L a b T W g kx X Y) {F : Nat → Int32 → Me → Option (Int32 × Me)}
    (hF : ∀ (fu f : Nat) (v : Int32) (σ : Me), Sh σ → W v → f < 1000 → mi σ 60 11 = nI f → F (fu + 1) v σ = some (v, σ))
    (hstep : ∀ (fu p : Nat) (v : Int32) (σ : Me), W v → Ps B L a b T σ p g →
      (ops (chr T (nx T p)) = false → ∃ σ1 : Me, F (fu + 1) v σ = some (v, σ1) ∧ Fr paX σ σ1 ∧ Ps B L a b T σ1 (nx T p) g) ∧
      (ops (chr T (nx T p)) = true → ∃ σ2 : Me, Fr paX σ σ2 ∧ Ps B L a b T σ2 (nx T p + 1) g ∧ ∀ (w : Int32) (σ3 : Me), Y σ2 = some (w, σ3) → W w → ∃ u : Int32, F (fu + 1) v σ = F fu u σ3 ∧ W u ∧ (B → Bd v → Bd w → u = jn v (chr T (nx T p)) w))) {σ0 : Me} :
    ∀ (m i p fu : Nat) (v : Int32) (C : List Ci) (σ : Me), i + m = 240 → m + 1 < fu → i ≤ p → W v → Ps B L a b T σ p g → Fr paX σ0 σ → mi σ 60 12 = mi σ0 60 12 → (B → Vl L k C v ∧ Bd v) → ParM B L W k σ0 (pLoop T ops X m p C) (F fu v σ)
  | _, _, _, 0, _, _, _, _, h0, _, _, _, _, _, _ => absurd h0 (Nat.not_lt_zero _)
  | 0, i, p, fu + 1, v, C, σ, hi, _, hip, hW, hP, f, e12, hV => by
    have h2 := hT.1
    have e : ops (chr T (nx T p)) = false := by
      rw [nx_end (by omega), chr_hi (by omega)]
      cases w : ops 0 with
      | false => rfl
      | true => exact absurd rfl (ho.n0 w)
    obtain ⟨σ1, q1, q2, q3⟩ := (hstep fu p v σ hW hP).1 e
    exact ⟨v, σ1, q1, f.tr q2, hW, q3.2.1, q3.2.2.1, (q3.2.2.2.1.trans hP.2.2.2.1.symm).trans e12, hV⟩
  | m + 1, i, p, fu + 1, v, C, σ, hi, h0, hip, hW, hP, f, e12, hV => by
    have h2 := hT.1
    obtain ⟨s1, s2⟩ := hstep fu p v σ hW hP
    have hg := nx_ge T p
    unfold pLoop
    by_cases e : ops (chr T (nx T p)) = true
    · obtain ⟨σ2, f2, P2, k2⟩ := s2 e
      have hlt : nx T p < T.1 := chr_in (ho.n0 e)
      have hx := hY σ2 _ P2
      have hg2 := hX (nx T p + 1) (by omega)
      rw [if_pos e]
      generalize X (nx T p + 1) = x at hx hg2 ⊢
      rcases x with c | ⟨r, D⟩
      · obtain ⟨w, σ3, y1, y2, y3, y4⟩ := hx
        obtain ⟨u, u1, u2, -⟩ := k2 w σ3 y1 y3
        have hc : c ≤ T.1 := hg2
        obtain ⟨fu', rfl⟩ : ∃ fu', fu = fu' + 1 := ⟨fu - 1, by omega⟩
        rw [u1, hF fu' c u σ3 (P2.1.fr y2).1 u2 (by omega) y4]
        exact ⟨u, σ3, rfl, f.tr (f2.tr y2), u2, y4⟩
      · obtain ⟨w, σ3, y1, y2, y3, y4, y5, y6, y7⟩ := hx
        obtain ⟨g1, g2, g3, g4⟩ := hg2
        simp only at g1 g2 g3
        obtain ⟨u, u1, u2, u3⟩ := k2 w σ3 y1 y3
        have P3 : Ps B L a b T σ3 r g := P2.of y2 y4 y5 y6 g3
        rw [u1]
        refine loopP_m hT hk1 hk3 ho hX hY hF hstep m (i + 1) r fu u _ σ3 (by omega) (by omega) (by omega) u2 P3 (f.tr (f2.tr y2)) ?_ (fun hB => ?_)
        · rw [P3.2.2.2.1, ← hP.2.2.2.1]; exact e12
        · rw [u3 hB (hV hB).2 (y7 hB).2]
          exact ⟨(hV hB).1.join (y7 hB).1 (Nat.le_refl _) hk1 hk3 (ho _ e), Bd_jn _ _ _⟩
    · have e' : ops (chr T (nx T p)) = false := by simpa using e
      obtain ⟨σ1, q1, q2, q3⟩ := s1 e'
      rw [if_neg e, q1]
      exact ⟨v, σ1, rfl, f.tr q2, hW, q3.2.1, q3.2.2.1, (q3.2.2.2.1.trans hP.2.2.2.1.symm).trans e12, hV⟩
/-- what was read first, and what is joined to it -/
theorem chainP_m (hT : txOK T) (hN : 300 ≤ N) {g k kx : Nat} (hk1 : kx + 1 ≤ k) (hk3 : 3 ≤ k) {ops : Nat → Bool} (ho : OpX ops) {X : Nat → Pr} (hX : GdX T X) {Y : Me → Option (Int32 × Me)} (hY : RdM B L a b T W g kx X Y) {F : Nat → Int32 → Me → Option (Int32 × Me)}
    (hF : ∀ (fu f : Nat) (v : Int32) (σ : Me), Sh σ → W v → f < 1000 → mi σ 60 11 = nI f → F (fu + 1) v σ = some (v, σ))
    (hstep : ∀ (fu p : Nat) (v : Int32) (σ : Me), W v → Ps B L a b T σ p g →
      (ops (chr T (nx T p)) = false → ∃ σ1 : Me, F (fu + 1) v σ = some (v, σ1) ∧ Fr paX σ σ1 ∧ Ps B L a b T σ1 (nx T p) g) ∧
      (ops (chr T (nx T p)) = true → ∃ σ2 : Me, Fr paX σ σ2 ∧ Ps B L a b T σ2 (nx T p + 1) g ∧ ∀ (w : Int32) (σ3 : Me), Y σ2 = some (w, σ3) → W w → ∃ u : Int32, F (fu + 1) v σ = F fu u σ3 ∧ W u ∧ (B → Bd v → Bd w → u = jn v (chr T (nx T p)) w)))
    {σ : Me} {p : Nat} (hP : Ps B L a b T σ p g) {x : Pr} (hg : Gl T x) {o : Option (Int32 × Me)} (hx : ParM B L W kx σ x o) : ParM B L W k σ (thn x (fun r C => pLoop T ops X 240 r C)) (o.bind fun q => F N q.1 q.2) := by
  have h2 := hT.1
  rcases x with c | ⟨r, D⟩
  · obtain ⟨w, σ3, y1, y2, y3, y4⟩ := hx
    have hc : c ≤ T.1 := hg
    obtain ⟨N', rfl⟩ : ∃ N', N = N' + 1 := ⟨N - 1, by omega⟩
    rw [y1, bnd, hF N' c w σ3 (hP.1.fr y2).1 y3 (by omega) y4]
    exact ⟨w, σ3, rfl, y2, y3, y4⟩
  · obtain ⟨w, σ3, y1, y2, y3, y4, y5, y6, y7⟩ := hx
    have g3 : r ≤ T.1 := hg
    rw [y1, bnd]
    exact loopP_m hT hk1 hk3 ho hX hY hF hstep 240 0 r N w D σ3 (by omega) (by omega) (by omega) y3 (hP.of y2 y4 y5 y6 g3) y2 y6 (fun hB => ⟨(y7 hB).1.up (by omega), (y7 hB).2⟩)
theorem m42 : (42 : Int32) = nI 42 := rfl
theorem term_m (hT : txOK T) (hN : 300 ≤ N) {g k : Nat} (hk : 2 ≤ k) {R : Option (Nat → Pr)} (hR : GdR T R) {G : Rc12_atom} (hY : RdM B L a b T WA g k (pAtom T R) (fun σ => G.1 60 σ)) : RdM B L a b T WA g (k + 1) (pTerm T R) (fun σ => bc12_term N G 60 σ) := by
  intro σ p hP
  have e : bc12_term N G 60 σ = (G.1 60 σ).bind fun q => (fun fu v σ => fc12_term_5 N G fu (some 60) v σ) N q.1 q.2 := by
    rw [bc12_term, d60 hP.1.1, bnd]
  show ParM B L WA (k + 1) σ (pTerm T R p) (bc12_term N G 60 σ)
  rw [e]
  refine chainP_m (W := WA) (F := fun fu v σ => fc12_term_5 N G fu (some 60) v σ) hT hN (Nat.le_refl _) (by omega) oM_x (pAtom_gd hR) hY (fun fu f v σ h _ hf e11 => ?_) (fun fu p v σ _ hP => ?_) hP (pAtom_gd hR p hP.2.2.2.2).gl (hY σ p hP)
  · show fc12_term_5 N G (fu + 1) (some 60) v σ = _
    rw [fc12_term_5, mq h e11, bnd, if_neg (nI_m1 (by omega))]
  · obtain ⟨σ1, q1, q2, q3⟩ := look_m (N := N) hP hT hN
    obtain ⟨σ1', q1', q2', q3'⟩ := look_m (N := N) q3 hT hN
    obtain ⟨σ1'', q1'', q2'', q3''⟩ := look_m (N := N) q3' hT hN
    rw [nx_nx] at q1' q3' q1'' q3''
    rw [nx_nx] at q1'' q3''
    have hb := chr_lt hT (nx T p)
    have e0 : fc12_term_5 N G (fu + 1) (some 60) v σ = if lk (chr T (nx T p)) = (42 : Int32) then fc12_term_31 N G (fc12_term_5 N G fu) (some 60) v σ1 else if lk (chr T (nx T p)) = (47 : Int32) then fc12_term_31 N G (fc12_term_5 N G fu) (some 60) v σ1' else some (v, σ1') := by
      rw [fc12_term_5, mq hP.1.1 hP.2.2.1, bnd, if_pos rfl, d60 hP.1.1, bnd, q1, bnd, d60 q3.1.1, bnd, q1', bnd]
    have e31 : ∀ (τ τ1 : Me), Ps B L a b T τ (nx T p) g → fc12_look N 60 τ = some (lk (chr T (nx T p)), τ1) → Ps B L a b T τ1 (nx T p) g → chr T (nx T p) ≠ 0 → ∀ (w : Int32) (σ3 : Me), G.1 60 (setI τ1 60 10 (nI (nx T p + 1))) = some (w, σ3) → ∃ u : Int32, fc12_term_31 N G (fc12_term_5 N G fu) (some 60) v τ = fc12_term_5 N G fu (some 60) u σ3 ∧ WA u ∧ (B → Bd v → Bd w → u = if chr T (nx T p) = 42 then jn v 42 w else jn v 47 w) := by
      intro τ τ1 hτ ql hτ1 h0 w σ3 hw
      obtain ⟨t1, t2, t3, t4⟩ := hτ1.step (chr_in h0)
      by_cases c : chr T (nx T p) = 42
      · refine ⟨clm (Int32.toInt64 v * Int32.toInt64 w), ?_, trivial, fun _ _ _ => by rw [if_pos c, jn_42]⟩
        rw [fc12_term_31, d60 hτ.1.1, bnd, ql, bnd, if_pos ((lkI y42 hb (by decide) (by decide)).mpr c), fc12_term_45, t1, bnd, t2, bnd, d60 t4.1.1, bnd, hw, bnd, if_neg one_z, fc12_term_87, within_m, bnd]
      · have e5 : fc12_term_31 N G (fc12_term_5 N G fu) (some 60) v τ = if (lg_cmp (Int32.toInt64 w) (0 : Int64)) = 0 then fc12_term_87 N G (fc12_term_5 N G fu) (some 60) (0 : Int64) σ3 else (dvL (Int32.toInt64 v) (Int32.toInt64 w)).bind fun v86 => fc12_term_87 N G (fc12_term_5 N G fu) (some 60) v86 σ3 := by
          rw [fc12_term_31, d60 hτ.1.1, bnd, ql, bnd, if_neg (fun w => c ((lkI y42 hb (by decide) (by decide)).mp w)), fc12_term_45, t1, bnd, t2, bnd, d60 t4.1.1, bnd, hw, bnd, if_pos rfl]
        rw [e5]
        by_cases z : w = 0
        · refine ⟨clm 0, ?_, trivial, fun _ _ _ => by rw [if_neg c, jn_47, if_pos z]⟩
          rw [if_pos (by rw [z]; decide), fc12_term_87, within_m, bnd]
        · have z2 : ¬ Int32.toInt64 w = 0 := fun e => z (by
            have := congrArg Int64.toInt e
            rw [Int32.toInt_toInt64] at this
            exact Int32.toInt_inj.1 this)
          refine ⟨clm (Int32.toInt64 v / Int32.toInt64 w), ?_, trivial, fun _ h1 h2 => by rw [if_neg c, jn_47, if_neg z, dv_32 h1 h2 z]⟩
          rw [if_neg (fun e => z2 ((lg_cmp_eq _ _).mp e))]
          unfold dvL
          rw [if_neg z2, bnd, fc12_term_87, within_m, bnd]
    refine ⟨fun e => ?_, fun e => ?_⟩
    · simp only [oM, Bool.or_eq_false_iff, decide_eq_false_iff_not] at e
      refine ⟨σ1', ?_, q2.tr q2', q3'⟩
      show fc12_term_5 N G (fu + 1) (some 60) v σ = _
      rw [e0, if_neg (fun w => e.1 ((lkI y42 hb (by decide) (by decide)).mp w)), if_neg (fun w => e.2 ((lkI y47 hb (by decide) (by decide)).mp w))]
    · simp only [oM, Bool.or_eq_true, decide_eq_true_eq] at e
      have h0 : chr T (nx T p) ≠ 0 := by omega
      by_cases c : chr T (nx T p) = 42
      · obtain ⟨t1, t2, t3, t4⟩ := q3'.step (chr_in h0)
        refine ⟨setI σ1' 60 10 (nI (nx T p + 1)), (q2.tr q2').tr t3, t4, fun w σ3 hw _ => ?_⟩
        obtain ⟨u, u1, u2, u3⟩ := e31 σ1 σ1' q3 q1' q3' h0 w σ3 hw
        refine ⟨u, ?_, u2, fun h1 h2 h3 => by rw [u3 h1 h2 h3, if_pos c, c]⟩
        show fc12_term_5 N G (fu + 1) (some 60) v σ = _
        rw [e0, if_pos ((lkI y42 hb (by decide) (by decide)).mpr c)]
        exact u1
      · have c2 := e.resolve_left c
        obtain ⟨t1, t2, t3, t4⟩ := q3''.step (chr_in h0)
        refine ⟨setI σ1'' 60 10 (nI (nx T p + 1)), ((q2.tr q2').tr q2'').tr t3, t4, fun w σ3 hw _ => ?_⟩
        obtain ⟨u, u1, u2, u3⟩ := e31 σ1' σ1'' q3' q1'' q3'' h0 w σ3 hw
        refine ⟨u, ?_, u2, fun h1 h2 h3 => by rw [u3 h1 h2 h3, if_neg c, c2]⟩
        show fc12_term_5 N G (fu + 1) (some 60) v σ = _
        rw [e0, if_neg (fun w => c ((lkI y42 hb (by decide) (by decide)).mp w)), if_pos ((lkI y47 hb (by decide) (by decide)).mpr c2)]
        exact u1
theorem sumr_m (hT : txOK T) (hN : 300 ≤ N) {g k : Nat} (hk : 2 ≤ k) {R : Option (Nat → Pr)} (hR : GdR T R) {G : Rc12_atom} (hY : RdM B L a b T WA g k (pTerm T R) (fun σ => G.2.2 60 σ)) : RdM B L a b T WA g (k + 1) (pSumR T R) (fun σ => bc12_sum N G 60 σ) := by
  intro σ p hP
  have hgd : GdX T (pTerm T R) := pChain_gd oM_x (pAtom_gd hR)
  have e : bc12_sum N G 60 σ = (G.2.2 60 σ).bind fun q => (fun fu v σ => fc12_sum_5 N G fu (some 60) v σ) N q.1 q.2 := by
    rw [bc12_sum, d60 hP.1.1, bnd]
  show ParM B L WA (k + 1) σ (pSumR T R p) (bc12_sum N G 60 σ)
  rw [e]
  refine chainP_m (W := WA) (F := fun fu v σ => fc12_sum_5 N G fu (some 60) v σ) hT hN (Nat.le_refl _) (by omega) oA_x hgd hY (fun fu f v σ h _ hf e11 => ?_) (fun fu p v σ _ hP => ?_) hP (hgd p hP.2.2.2.2).gl (hY σ p hP)
  · show fc12_sum_5 N G (fu + 1) (some 60) v σ = _
    rw [fc12_sum_5, mq h e11, bnd, if_neg (nI_m1 (by omega))]
  · obtain ⟨σ1, q1, q2, q3⟩ := look_m (N := N) hP hT hN
    obtain ⟨σ1', q1', q2', q3'⟩ := look_m (N := N) q3 hT hN
    obtain ⟨σ1'', q1'', q2'', q3''⟩ := look_m (N := N) q3' hT hN
    rw [nx_nx] at q1' q3' q1'' q3''
    rw [nx_nx] at q1'' q3''
    have hb := chr_lt hT (nx T p)
    have e0 : fc12_sum_5 N G (fu + 1) (some 60) v σ = if lk (chr T (nx T p)) = (43 : Int32) then fc12_sum_31 N G (fc12_sum_5 N G fu) (some 60) v σ1 else if lk (chr T (nx T p)) = (45 : Int32) then fc12_sum_31 N G (fc12_sum_5 N G fu) (some 60) v σ1' else some (v, σ1') := by
      rw [fc12_sum_5, mq hP.1.1 hP.2.2.1, bnd, if_pos rfl, d60 hP.1.1, bnd, q1, bnd, d60 q3.1.1, bnd, q1', bnd]
    have e31 : ∀ (τ τ1 : Me), Ps B L a b T τ (nx T p) g → fc12_look N 60 τ = some (lk (chr T (nx T p)), τ1) → Ps B L a b T τ1 (nx T p) g → chr T (nx T p) ≠ 0 → ∀ (w : Int32) (σ3 : Me), G.2.2 60 (setI τ1 60 10 (nI (nx T p + 1))) = some (w, σ3) → ∃ u : Int32, fc12_sum_31 N G (fc12_sum_5 N G fu) (some 60) v τ = fc12_sum_5 N G fu (some 60) u σ3 ∧ WA u ∧ (B → Bd v → Bd w → u = if chr T (nx T p) = 43 then jn v 43 w else jn v 45 w) := by
      intro τ τ1 hτ ql hτ1 h0 w σ3 hw
      obtain ⟨t1, t2, t3, t4⟩ := hτ1.step (chr_in h0)
      by_cases c : chr T (nx T p) = 43
      · refine ⟨clm (Int32.toInt64 v + Int32.toInt64 w), ?_, trivial, fun _ _ _ => by rw [if_pos c, jn_43]⟩
        rw [fc12_sum_31, d60 hτ.1.1, bnd, ql, bnd, if_pos ((lkI y43 hb (by decide) (by decide)).mpr c), fc12_sum_45, t1, bnd, t2, bnd, d60 t4.1.1, bnd, hw, bnd, if_neg one_z, fc12_sum_77, within_m, bnd]
      · refine ⟨clm (Int32.toInt64 v - Int32.toInt64 w), ?_, trivial, fun _ _ _ => by rw [if_neg c, jn_45]⟩
        rw [fc12_sum_31, d60 hτ.1.1, bnd, ql, bnd, if_neg (fun w => c ((lkI y43 hb (by decide) (by decide)).mp w)), fc12_sum_45, t1, bnd, t2, bnd, d60 t4.1.1, bnd, hw, bnd, if_pos rfl, fc12_sum_77, within_m, bnd]
    refine ⟨fun e => ?_, fun e => ?_⟩
    · simp only [oA_, Bool.or_eq_false_iff, decide_eq_false_iff_not] at e
      refine ⟨σ1', ?_, q2.tr q2', q3'⟩
      show fc12_sum_5 N G (fu + 1) (some 60) v σ = _
      rw [e0, if_neg (fun w => e.1 ((lkI y43 hb (by decide) (by decide)).mp w)), if_neg (fun w => e.2 ((lkI y45 hb (by decide) (by decide)).mp w))]
    · simp only [oA_, Bool.or_eq_true, decide_eq_true_eq] at e
      have h0 : chr T (nx T p) ≠ 0 := by omega
      by_cases c : chr T (nx T p) = 43
      · obtain ⟨t1, t2, t3, t4⟩ := q3'.step (chr_in h0)
        refine ⟨setI σ1' 60 10 (nI (nx T p + 1)), (q2.tr q2').tr t3, t4, fun w σ3 hw _ => ?_⟩
        obtain ⟨u, u1, u2, u3⟩ := e31 σ1 σ1' q3 q1' q3' h0 w σ3 hw
        refine ⟨u, ?_, u2, fun h1 h2 h3 => by rw [u3 h1 h2 h3, if_pos c, c]⟩
        show fc12_sum_5 N G (fu + 1) (some 60) v σ = _
        rw [e0, if_pos ((lkI y43 hb (by decide) (by decide)).mpr c)]
        exact u1
      · have c2 := e.resolve_left c
        obtain ⟨t1, t2, t3, t4⟩ := q3''.step (chr_in h0)
        refine ⟨setI σ1'' 60 10 (nI (nx T p + 1)), ((q2.tr q2').tr q2'').tr t3, t4, fun w σ3 hw _ => ?_⟩
        obtain ⟨u, u1, u2, u3⟩ := e31 σ1' σ1'' q3' q1'' q3'' h0 w σ3 hw
        refine ⟨u, ?_, u2, fun h1 h2 h3 => by rw [u3 h1 h2 h3, if_neg c, c2]⟩
        show fc12_sum_5 N G (fu + 1) (some 60) v σ = _
        rw [e0, if_neg (fun w => c ((lkI y43 hb (by decide) (by decide)).mp w)), if_pos ((lkI y45 hb (by decide) (by decide)).mpr c2)]
        exact u1
end MU
