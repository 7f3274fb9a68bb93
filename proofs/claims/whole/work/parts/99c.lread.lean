/-! the class reads a law -/
theorem y38 : (38 : Int32) = nI 38 := rfl
theorem y41 : (41 : Int32) = nI 41 := rfl
theorem y42 : (42 : Int32) = nI 42 := rfl
theorem y43 : (43 : Int32) = nI 43 := rfl
theorem y45 : (45 : Int32) = nI 45 := rfl
theorem y47 : (47 : Int32) = nI 47 := rfl
theorem y62 : (62 : Int32) = nI 62 := rfl
theorem y91 : (91 : Int32) = nI 91 := rfl
theorem y93 : (93 : Int32) = nI 93 := rfl
theorem y124 : (124 : Int32) = nI 124 := rfl
theorem y102 : (102 : Int32) = nI 102 := rfl
theorem y105 : (105 : Int32) = nI 105 := rfl
theorem y112 : (112 : Int32) = nI 112 := rfl
theorem y109 : (109 : Int32) = nI 109 := rfl
theorem y104 : (104 : Int32) = nI 104 := rfl
theorem y107 : (107 : Int32) = nI 107 := rfl
def lrX : Nat → Nat → Bool := fun a j => (a == 1 && j == 2) || (a == 11 && j == 2) || a == 12
theorem lrX_f : Sf lrX := by
  have h : ∀ q ∈ rfL, lrX q.1.1 q.1.2 = false := by decide +kernel
  exact h
theorem aX_l {a j : Nat} (h : lrX a j = false) : aX a j = false := by
  simp only [lrX, Bool.or_eq_false_iff] at h
  exact h.1.1
theorem Fr.al {σ σ' : Me} (h : Fr aX σ σ') : Fr lrX σ σ' := h.mono (fun _ _ e => aX_l e)
def CdW (σ : Me) (A : List Ci) : Prop := mi σ 11 2 = nI A.length ∧ ∀ (i : Nat) (x : Ci), A[i]? = some x → mi σ 12 i = enc x
def RdC (σ : Me) (T : Tx) (p : Nat) (A : List Ci) : Prop := Sh σ ∧ TpC σ T ∧ mi σ 1 2 = nI p ∧ CdW σ A ∧ p ≤ T.1 ∧ A.length ≤ p
def ParC (σ : Me) (A : List Ci) (x : Pr) (o : Option (Int32 × Me)) : Prop := match x with
  | .inl f => ∃ σ' : Me, o = some (0, σ') ∧ Fr lrX σ σ' ∧ mi σ' 1 2 = nI f
  | .inr z => ∃ σ' : Me, o = some (1, σ') ∧ Fr lrX σ σ' ∧ mi σ' 1 2 = nI z.1 ∧ CdW σ' (A ++ z.2)
def RdX (T : Tx) (X : Nat → Pr) (F : Me → Option (Int32 × Me)) : Prop := ∀ (σ : Me) (p : Nat) (A : List Ci), RdC σ T p A → ParC σ A (X p) (F σ)
theorem CdW.ax {σ σ' : Me} {A : List Ci} (h : CdW σ A) (f : Fr aX σ σ') : CdW σ' A := ⟨by rw [f.i rfl]; exact h.1, fun i x e => by rw [f.i rfl]; exact h.2 i x e⟩
theorem TpC.lx {σ σ' : Me} {T : Tx} (h : TpC σ T) (f : Fr lrX σ σ') : TpC σ' T := h.fr f rfl (fun _ => rfl)
theorem RdC.ax {σ σ' : Me} {T : Tx} {p q : Nat} {A : List Ci} (h : RdC σ T p A) (f : Fr aX σ σ') (e : mi σ' 1 2 = nI q) (h1 : p ≤ q) (h2 : q ≤ T.1) : RdC σ' T q A :=
  ⟨f.sh aX_f h.1, h.2.1.ax f, e, h.2.2.2.1.ax f, h2, Nat.le_trans h.2.2.2.2.2 h1⟩
theorem RdC.lx {σ σ' : Me} {T : Tx} {p q : Nat} {A C : List Ci} (h : RdC σ T p A) (f : Fr lrX σ σ') (e : mi σ' 1 2 = nI q) (hc : CdW σ' (A ++ C)) (h1 : p + C.length ≤ q) (h2 : q ≤ T.1) : RdC σ' T q (A ++ C) :=
  ⟨f.sh lrX_f h.1, h.2.1.lx f, e, hc, h2, by have := h.2.2.2.2.2; rw [List.length_append]; omega⟩
theorem ParC.fr {σ0 σ : Me} {A C : List Ci} {x : Pr} {o : Option (Int32 × Me)} (f : Fr lrX σ0 σ) (h : ParC σ A x o) : ParC σ0 A x o := by
  rcases x with a | z
  · obtain ⟨σ', h1, h2, h3⟩ := h
    exact ⟨σ', h1, f.tr h2, h3⟩
  · obtain ⟨σ', h1, h2, h3⟩ := h
    exact ⟨σ', h1, f.tr h2, h3⟩
section LR
variable {N : Nat} {σ : Me} {T : Tx} {p : Nat} {A : List Ci}
theorem lq0 (h : Sh σ) : qR σ 4 0 (some 11) = some (some 1) := by simp only [qR, PR h, bnd]
theorem ld11 (h : Sh σ) : dr σ (some 11) (.inl 4) = some 11 := (PR h).2.2.2.1
theorem write_c (h : Sh σ) (hc : CdW σ A) (hl : A.length < 240) {v : Int32} {c : Ci} (hv : v = enc c) : ∃ σ' : Me, fc4_write N 11 v σ = some (1, σ') ∧ Fr lrX σ σ' ∧ mi σ' 1 2 = mi σ 1 2 ∧ CdW σ' (A ++ [c]) := by
  refine ⟨setI (setI σ 11 2 (nI (A.length + 1))) 12 A.length v, ?_, fr_I rfl (fr_I rfl (Fr.rf _ _)), by rw [mi_ne _ _ (by omega), mi_ne _ _ (by omega)], ?_, ?_⟩
  · have q1 : qI σ 4 2 (some 11) = some (nI A.length) := by simp only [qI, ld11 h, bnd, hc.1]
    have q2 : qR σ 4 1 (some 11) = some (some 12) := by simp only [qR, PR h, bnd]
    have p1 : pI σ 4 2 (some 11) (nI A.length + (1 : Int32)) = some (setI σ 11 2 (nI (A.length + 1))) := by simp only [pI, ld11 h, bnd, nI_1]
    have s1 : stI (setI σ 11 2 (nI (A.length + 1))) (some 12) (nI A.length) v = some (setI (setI σ 11 2 (nI (A.length + 1))) 12 A.length v) := by
      unfold stI
      rw [arr_setI, A12 h _ hl, bnd, nI_clamp (by omega)]
    rw [fc4_write, q1, bnd, q2, bnd, Z12 h, bnd, if_pos (nI_lt hl (by decide)), bnd, bnd, p1, bnd, s1, bnd, retZ1]
  · rw [mi_ne _ _ (by omega), mi_eq, List.length_append]; rfl
  · intro i x e
    by_cases hi : i = A.length
    · subst hi
      rw [List.getElem?_append_right (Nat.le_refl _), Nat.sub_self] at e
      cases e
      rw [mi_eq, hv]
    · have hi2 : i < A.length := by
        rcases Nat.lt_or_ge i (A ++ [c]).length with q | q
        · rw [List.length_append] at q
          simp only [List.length_cons, List.length_nil] at q
          omega
        · rw [List.getElem?_eq_none q] at e; cases e
      rw [List.getElem?_append_left hi2] at e
      rw [mi_ne _ _ (by omega), mi_ne _ _ (by omega)]
      exact hc.2 i x e
/-- a loop over signs that join -/
theorem loop_c (hT : txOK T) {ops : Nat → Bool} (ho : OpX ops) {X : Nat → Pr} (hX : GdX T X) {Y : Me → Option (Int32 × Me)} (hY : RdX T X Y) {F : Nat → Int32 → Me → Option (Int32 × Me)}
    (hend : ∀ (fu : Nat) (σ : Me), F (fu + 1) (nI 240) σ = some (1, σ))
    (hstep : ∀ (fu k p : Nat) (σ : Me) (B : List Ci), k < 240 → RdC σ T p B →
      (ops (chr T (nx T p)) = false → ∃ σ1 : Me, F (fu + 1) (nI k) σ = some (1, σ1) ∧ Fr aX σ σ1 ∧ mi σ1 1 2 = nI (nx T p)) ∧
      (ops (chr T (nx T p)) = true → ∃ σ2 : Me, Fr aX σ σ2 ∧ mi σ2 1 2 = nI (nx T p + 1) ∧ F (fu + 1) (nI k) σ = (Y σ2).bind fun r => if r.1 = 0 then retZ (0 : Int32) r.2 else (fc4_write N 11 (-nI (chr T (nx T p))) r.2).bind fun w => if w.1 = 0 then retZ (0 : Int32) w.2 else F fu (nI (k + 1)) w.2)) {σ0 : Me} {A0 : List Ci} :
    ∀ (m k p fu : Nat) (C : List Ci) (σ : Me), k + m = 240 → m < fu → k ≤ p → RdC σ T p (A0 ++ C) → Fr lrX σ0 σ → ParC σ0 A0 (pLoop T ops X m p C) (F fu (nI k) σ)
  | _, _, _, 0, _, _, _, h0, _, _, _ => absurd h0 (Nat.not_lt_zero _)
  | 0, k, p, fu + 1, C, σ, hk, _, hkp, hR, f => by
    have h2 := hT.1
    have hp := hR.2.2.2.2.1
    have e : k = 240 := by omega
    subst e
    rw [hend]
    refine ⟨σ, rfl, f, ?_, hR.2.2.2.1⟩
    show mi σ 1 2 = nI (nx T p)
    rw [nx_end (by omega)]; exact hR.2.2.1
  | m + 1, k, p, fu + 1, C, σ, hk, h0, hkp, hR, f => by
    have h2 := hT.1
    have hp := hR.2.2.2.2.1
    have hg := nx_ge T p
    obtain ⟨s1, s2⟩ := hstep fu k p σ _ (by omega) hR
    unfold pLoop
    by_cases e : ops (chr T (nx T p)) = true
    · obtain ⟨σ2, f2, a2, e2⟩ := s2 e
      have hlt : nx T p < T.1 := chr_in (ho.n0 e)
      have hR2 := hR.ax f2 a2 (by omega) (by omega)
      have hx := hY σ2 (nx T p + 1) _ hR2
      have hg2 := hX (nx T p + 1) (by omega)
      rw [if_pos e, e2]
      generalize hXe : X (nx T p + 1) = x at hx hg2 ⊢
      rcases x with a | ⟨r, D⟩
      · obtain ⟨σ3, y1, y2, y3⟩ := hx
        rw [y1, bnd, if_pos rfl, retZ0]
        exact ⟨σ3, rfl, f.tr (f2.al.tr y2), y3⟩
      · obtain ⟨σ3, y1, y2, y3, y4⟩ := hx
        obtain ⟨g1, g2, g3, g4⟩ := hg2
        have hR3 := hR2.lx y2 y3 y4 g1 g3
        have hl3 := hR3.2.2.2.2.2
        have hbA := hR2.2.2.2.2.2
        simp only at g1 g2 g3
        have hlt3 : ((A0 ++ C) ++ D).length < 240 := by
          rw [List.length_append]
          have := hR.2.2.2.2.2
          omega
        obtain ⟨σ4, w1, w2, w3, w4⟩ := write_c (N := N) (c := .inr (chr T (nx T p))) (v := -nI (chr T (nx T p))) hR3.1 hR3.2.2.2.1 hlt3 rfl
        rw [y1, bnd, if_neg (show ¬ (1 : Int32) = 0 by decide), w1, bnd, if_neg (show ¬ (1 : Int32) = 0 by decide)]
        have eA : A0 ++ C ++ D ++ [Sum.inr (chr T (nx T p))] = A0 ++ (C ++ D ++ [Sum.inr (chr T (nx T p))]) := by simp only [List.append_assoc]
        refine loop_c hT ho hX hY hend hstep m (k + 1) r fu _ σ4 (by omega) (by omega) (by omega) ?_ (f.tr (f2.al.tr (y2.tr w2)))
        rw [← eA]
        refine ⟨w2.sh lrX_f hR3.1, hR3.2.1.lx w2, by rw [w3]; exact y3, w4, g3, ?_⟩
        rw [List.length_append, List.length_append]
        simp only [List.length_cons, List.length_nil]
        have := hR.2.2.2.2.2
        omega
    · have e' : ops (chr T (nx T p)) = false := by simpa using e
      obtain ⟨σ1, q1, q2, q3⟩ := s1 e'
      rw [if_neg e, q1]
      exact ⟨σ1, rfl, f.tr q2.al, q3, hR.2.2.2.1.ax q2⟩
theorem chain_c (hT : txOK T) {ops : Nat → Bool} (ho : OpX ops) {X : Nat → Pr} (hX : GdX T X) {Y : Me → Option (Int32 × Me)} (hY : RdX T X Y) {F : Nat → Int32 → Me → Option (Int32 × Me)}
    (hend : ∀ (fu : Nat) (σ : Me), F (fu + 1) (nI 240) σ = some (1, σ))
    (hstep : ∀ (fu k p : Nat) (σ : Me) (B : List Ci), k < 240 → RdC σ T p B →
      (ops (chr T (nx T p)) = false → ∃ σ1 : Me, F (fu + 1) (nI k) σ = some (1, σ1) ∧ Fr aX σ σ1 ∧ mi σ1 1 2 = nI (nx T p)) ∧
      (ops (chr T (nx T p)) = true → ∃ σ2 : Me, Fr aX σ σ2 ∧ mi σ2 1 2 = nI (nx T p + 1) ∧ F (fu + 1) (nI k) σ = (Y σ2).bind fun r => if r.1 = 0 then retZ (0 : Int32) r.2 else (fc4_write N 11 (-nI (chr T (nx T p))) r.2).bind fun w => if w.1 = 0 then retZ (0 : Int32) w.2 else F fu (nI (k + 1)) w.2))
    (hN : 300 ≤ N) : RdX T (pChain T ops X) (fun σ => (Y σ).bind fun r => if r.1 = 0 then retZ (0 : Int32) r.2 else F N (nI 0) r.2) := by
  intro σ p A hR
  have hx := hY σ p A hR
  have hg2 := hX p hR.2.2.2.2.1
  unfold pChain
  simp only
  generalize hXe : X p = x at hx hg2 ⊢
  rcases x with a | ⟨r, D⟩
  · obtain ⟨σ3, y1, y2, y3⟩ := hx
    rw [y1, bnd, if_pos rfl, retZ0]
    exact ⟨σ3, rfl, y2, y3⟩
  · obtain ⟨σ3, y1, y2, y3, y4⟩ := hx
    obtain ⟨g1, g2, g3, g4⟩ := hg2
    rw [y1, bnd, if_neg (show ¬ (1 : Int32) = 0 by decide)]
    exact loop_c hT ho hX hY hend hstep 240 0 r N D σ3 (by omega) (by omega) (by omega) (hR.lx y2 y3 y4 g1 g3) y2
theorem one_z : ¬ (1 : Int32) = 0 := by decide
theorem RdX.sh {X : Nat → Pr} {Y : Me → Option (Int32 × Me)} (hY : RdX T X Y) (hR : RdC σ T p A) {r : Int32 × Me} (e : Y σ = some r) : Sh r.2 := by
  have hx := hY σ p A hR
  generalize X p = z at hx
  rcases z with a | z
  · obtain ⟨σ', y1, y2, -⟩ := hx
    rw [e] at y1; cases y1
    exact y2.sh lrX_f hR.1
  · obtain ⟨σ', y1, y2, -⟩ := hx
    rw [e] at y1; cases y1
    exact y2.sh lrX_f hR.1
theorem chI {c k : Nat} {x : Int32} (hx : x = nI k) (hc : c < 256) (hk : k < 256) : nI c = x ↔ c = k := by
  rw [hx]; exact nI_eq (by omega) (by omega)
theorem term_c (hT : txOK T) (hN : 300 ≤ N) {R : Option (Nat → Pr)} (hR : GdR T R) {G : Rc4_readAtom} {x : Int32} (hY : RdX T (pAtom T R) (fun σ => G.1 11 x σ)) : RdX T (pTerm T R) (fun σ => bc4_readTerm N G 11 x σ) := by
  have k := chain_c (N := N) hT oM_x (pAtom_gd hR) hY (F := fun fu k σ => fc4_readTerm_12 N G fu (some 11) x k σ) (fun fu σ => by
    show fc4_readTerm_12 N G (fu + 1) (some 11) x (nI 240) σ = _
    rw [fc4_readTerm_12, y240, if_pos (nI_le (Nat.le_refl _) (by decide)), retZ1]) (fun fu k p σ B hk hR => by
    obtain ⟨σ1, q1, q2, q3⟩ := next_c (N := N) hR.1 hT hR.2.1 hR.2.2.1 hR.2.2.2.2.1 hN
    have h1 := q2.sh aX_f hR.1
    have hb := chr_lt hT (nx T p)
    have e0 : fc4_readTerm_12 N G (fu + 1) (some 11) x (nI k) σ = if nI (chr T (nx T p)) = (42 : Int32) then fc4_readTerm_42 N G (fc4_readTerm_12 N G fu) (some 11) x (nI k) (nI (chr T (nx T p))) σ1 else if nI (chr T (nx T p)) = (47 : Int32) then fc4_readTerm_42 N G (fc4_readTerm_12 N G fu) (some 11) x (nI k) (nI (chr T (nx T p))) σ1 else retZ (1 : Int32) σ1 := by
      rw [fc4_readTerm_12, y240, if_neg (nI_ge hk (by decide)), lq0 hR.1, bnd, (PR hR.1).1, bnd, q1, bnd]
    have e1 : fc4_readTerm_42 N G (fc4_readTerm_12 N G fu) (some 11) x (nI k) (nI (chr T (nx T p))) σ1 = (G.1 11 x (setI σ1 1 2 (nI (nx T p + 1)))).bind fun r => if r.1 = 0 then retZ (0 : Int32) r.2 else (dr r.2 (some 11) (.inl 4)).bind fun a => (fc4_write N a (-nI (chr T (nx T p))) r.2).bind fun w => if w.1 = 0 then retZ (0 : Int32) w.2 else fc4_readTerm_12 N G fu (some 11) x (nI (k + 1)) w.2 := by
      rw [fc4_readTerm_42, lq0 h1, bnd, tq2 h1 q3, bnd, tp2 h1, bnd, dr_setI, ld11 h1, bnd, nI_1, nI_1]
    refine ⟨fun e => ?_, fun e => ?_⟩
    · simp only [oM, Bool.or_eq_false_iff, decide_eq_false_iff_not] at e
      refine ⟨σ1, ?_, q2, q3⟩
      show fc4_readTerm_12 N G (fu + 1) (some 11) x (nI k) σ = _
      rw [e0, if_neg (fun w => e.1 ((chI y42 hb (by decide)).mp w)), if_neg (fun w => e.2 ((chI y47 hb (by decide)).mp w)), retZ1]
    · simp only [oM, Bool.or_eq_true, decide_eq_true_eq] at e
      refine ⟨setI σ1 1 2 (nI (nx T p + 1)), fr_I rfl q2, mi_eq _ _ _ _, ?_⟩
      show fc4_readTerm_12 N G (fu + 1) (some 11) x (nI k) σ = _
      have hlt : nx T p < T.1 := chr_in (by omega)
      have hR2 : RdC (setI σ1 1 2 (nI (nx T p + 1))) T (nx T p + 1) B := hR.ax (fr_I rfl q2) (mi_eq _ _ _ _) (by have := nx_ge T p; omega) (by omega)
      have e2 : fc4_readTerm_12 N G (fu + 1) (some 11) x (nI k) σ = fc4_readTerm_42 N G (fc4_readTerm_12 N G fu) (some 11) x (nI k) (nI (chr T (nx T p))) σ1 := by
        rw [e0]
        rcases e with e | e
        · rw [if_pos (by rw [e]; rfl)]
        · rw [if_neg (by rw [e]; decide), if_pos (by rw [e]; rfl)]
      rw [e2, e1]
      cases hG : G.1 11 x (setI σ1 1 2 (nI (nx T p + 1))) with
      | none => rfl
      | some r =>
        rw [bnd, bnd, ld11 (hY.sh hR2 hG), bnd]) hN
  intro σ p A hR'
  have k2 := k σ p A hR'
  have e : bc4_readTerm N G 11 x σ = (G.1 11 x σ).bind fun r => if r.1 = 0 then retZ (0 : Int32) r.2 else fc4_readTerm_12 N G N (some 11) x (nI 0) r.2 := by
    rw [bc4_readTerm, ld11 hR'.1, bnd, ← y0]
  show ParC σ A (pTerm T R p) (bc4_readTerm N G 11 x σ)
  rw [e]
  exact k2
theorem sum_r_c (hT : txOK T) (hN : 300 ≤ N) {R : Option (Nat → Pr)} (hR : GdR T R) {G : Rc4_readAtom} {x : Int32} (hY : RdX T (pTerm T R) (fun σ => G.2.2 11 x σ)) : RdX T (pSumR T R) (fun σ => bc4_readSum N G 11 x σ) := by
  have k := chain_c (N := N) hT oA_x (pChain_gd oM_x (pAtom_gd hR)) hY (F := fun fu k σ => fc4_readSum_12 N G fu (some 11) x k σ) (fun fu σ => by
    show fc4_readSum_12 N G (fu + 1) (some 11) x (nI 240) σ = _
    rw [fc4_readSum_12, y240, if_pos (nI_le (Nat.le_refl _) (by decide)), retZ1]) (fun fu k p σ B hk hR => by
    obtain ⟨σ1, q1, q2, q3⟩ := next_c (N := N) hR.1 hT hR.2.1 hR.2.2.1 hR.2.2.2.2.1 hN
    have h1 := q2.sh aX_f hR.1
    have hb := chr_lt hT (nx T p)
    have e0 : fc4_readSum_12 N G (fu + 1) (some 11) x (nI k) σ = if nI (chr T (nx T p)) = (43 : Int32) then fc4_readSum_42 N G (fc4_readSum_12 N G fu) (some 11) x (nI k) (nI (chr T (nx T p))) σ1 else if nI (chr T (nx T p)) = (45 : Int32) then fc4_readSum_42 N G (fc4_readSum_12 N G fu) (some 11) x (nI k) (nI (chr T (nx T p))) σ1 else retZ (1 : Int32) σ1 := by
      rw [fc4_readSum_12, y240, if_neg (nI_ge hk (by decide)), lq0 hR.1, bnd, (PR hR.1).1, bnd, q1, bnd]
    have e1 : fc4_readSum_42 N G (fc4_readSum_12 N G fu) (some 11) x (nI k) (nI (chr T (nx T p))) σ1 = (G.2.2 11 x (setI σ1 1 2 (nI (nx T p + 1)))).bind fun r => if r.1 = 0 then retZ (0 : Int32) r.2 else (dr r.2 (some 11) (.inl 4)).bind fun a => (fc4_write N a (-nI (chr T (nx T p))) r.2).bind fun w => if w.1 = 0 then retZ (0 : Int32) w.2 else fc4_readSum_12 N G fu (some 11) x (nI (k + 1)) w.2 := by
      rw [fc4_readSum_42, lq0 h1, bnd, tq2 h1 q3, bnd, tp2 h1, bnd, dr_setI, ld11 h1, bnd, nI_1, nI_1]
    refine ⟨fun e => ?_, fun e => ?_⟩
    · simp only [oA_, Bool.or_eq_false_iff, decide_eq_false_iff_not] at e
      refine ⟨σ1, ?_, q2, q3⟩
      show fc4_readSum_12 N G (fu + 1) (some 11) x (nI k) σ = _
      rw [e0, if_neg (fun w => e.1 ((chI y43 hb (by decide)).mp w)), if_neg (fun w => e.2 ((chI y45 hb (by decide)).mp w)), retZ1]
    · simp only [oA_, Bool.or_eq_true, decide_eq_true_eq] at e
      refine ⟨setI σ1 1 2 (nI (nx T p + 1)), fr_I rfl q2, mi_eq _ _ _ _, ?_⟩
      show fc4_readSum_12 N G (fu + 1) (some 11) x (nI k) σ = _
      have hlt : nx T p < T.1 := chr_in (by omega)
      have hR2 : RdC (setI σ1 1 2 (nI (nx T p + 1))) T (nx T p + 1) B := hR.ax (fr_I rfl q2) (mi_eq _ _ _ _) (by have := nx_ge T p; omega) (by omega)
      have e2 : fc4_readSum_12 N G (fu + 1) (some 11) x (nI k) σ = fc4_readSum_42 N G (fc4_readSum_12 N G fu) (some 11) x (nI k) (nI (chr T (nx T p))) σ1 := by
        rw [e0]
        rcases e with e | e
        · rw [if_pos (by rw [e]; rfl)]
        · rw [if_neg (by rw [e]; decide), if_pos (by rw [e]; rfl)]
      rw [e2, e1]
      cases hG : G.2.2 11 x (setI σ1 1 2 (nI (nx T p + 1))) with
      | none => rfl
      | some r =>
        rw [bnd, bnd, ld11 (hY.sh hR2 hG), bnd]) hN
  intro σ p A hR'
  have k2 := k σ p A hR'
  have e : bc4_readSum N G 11 x σ = (G.2.2 11 x σ).bind fun r => if r.1 = 0 then retZ (0 : Int32) r.2 else fc4_readSum_12 N G N (some 11) x (nI 0) r.2 := by
    rw [bc4_readSum, ld11 hR'.1, bnd, ← y0]
  show ParC σ A (pSumR T R p) (bc4_readSum N G 11 x σ)
  rw [e]
  exact k2
theorem truth_c (hT : txOK T) (hN : 300 ≤ N) {Z : Nat → Pr} (hZ : GdX T Z) {R : Option ((Nat → Pr) × (Nat → Pr))} (hR : GdU T R) {G : Rc4_readCondition} {x : Int32} (hY : RdX T (pUnit T Z R) (fun σ => G.2.2 11 x σ)) : RdX T (pTru T Z R) (fun σ => bc4_readTruth N G 11 x σ) := by
  have k := chain_c (N := N) hT oN_x (pUnit_gd hZ hR) hY (F := fun fu k σ => fc4_readTruth_12 N G fu (some 11) x k σ) (fun fu σ => by
    show fc4_readTruth_12 N G (fu + 1) (some 11) x (nI 240) σ = _
    rw [fc4_readTruth_12, y240, if_pos (nI_le (Nat.le_refl _) (by decide)), retZ1]) (fun fu k p σ B hk hR => by
    obtain ⟨t1, t2⟩ := take_cc (N := N) (c := 38) hR.1 hT hR.2.1 hR.2.2.1 hR.2.2.2.2.1 hN (by decide)
    refine ⟨fun e => ?_, fun e => ?_⟩
    · simp only [oN, decide_eq_false_iff_not] at e
      obtain ⟨σ1, q1, q2, q3⟩ := t2 e
      refine ⟨σ1, ?_, q2, q3⟩
      show fc4_readTruth_12 N G (fu + 1) (some 11) x (nI k) σ = _
      rw [fc4_readTruth_12, y240, if_neg (nI_ge hk (by decide)), lq0 hR.1, bnd, (PR hR.1).1, bnd, y38, q1, bnd, if_pos rfl, retZ1]
    · simp only [oN, decide_eq_true_eq] at e
      obtain ⟨σ2, q1, q2, q3⟩ := t1 e
      have h2 := q2.sh aX_f hR.1
      refine ⟨σ2, q2, q3, ?_⟩
      show fc4_readTruth_12 N G (fu + 1) (some 11) x (nI k) σ = _
      have hlt : nx T p < T.1 := chr_in (by omega)
      have hR2 : RdC σ2 T (nx T p + 1) B := hR.ax q2 q3 (by have := nx_ge T p; omega) (by omega)
      rw [fc4_readTruth_12, y240, if_neg (nI_ge hk (by decide)), lq0 hR.1, bnd, (PR hR.1).1, bnd, y38, q1, bnd, if_neg one_z, ld11 h2, bnd, e, nI_1]
      cases hG : G.2.2 11 x σ2 with
      | none => rfl
      | some r =>
        rw [bnd, bnd, ld11 (hY.sh hR2 hG), bnd]) hN
  intro σ p A hR'
  have k2 := k σ p A hR'
  have e : bc4_readTruth N G 11 x σ = (G.2.2 11 x σ).bind fun r => if r.1 = 0 then retZ (0 : Int32) r.2 else fc4_readTruth_12 N G N (some 11) x (nI 0) r.2 := by
    rw [bc4_readTruth, ld11 hR'.1, bnd, ← y0]
  show ParC σ A (pTru T Z R p) (bc4_readTruth N G 11 x σ)
  rw [e]
  exact k2
theorem cond_c (hT : txOK T) (hN : 300 ≤ N) {Z : Nat → Pr} (hZ : GdX T Z) {R : Option ((Nat → Pr) × (Nat → Pr))} (hR : GdU T R) {G : Rc4_readCondition} {x : Int32} (hY : RdX T (pTru T Z R) (fun σ => G.2.1 11 x σ)) : RdX T (pCndR T Z R) (fun σ => bc4_readCondition N G 11 x σ) := by
  have k := chain_c (N := N) hT oO_x ((pCndR_gd hZ hR).1) hY (F := fun fu k σ => fc4_readCondition_12 N G fu (some 11) x k σ) (fun fu σ => by
    show fc4_readCondition_12 N G (fu + 1) (some 11) x (nI 240) σ = _
    rw [fc4_readCondition_12, y240, if_pos (nI_le (Nat.le_refl _) (by decide)), retZ1]) (fun fu k p σ B hk hR => by
    obtain ⟨t1, t2⟩ := take_cc (N := N) (c := 124) hR.1 hT hR.2.1 hR.2.2.1 hR.2.2.2.2.1 hN (by decide)
    refine ⟨fun e => ?_, fun e => ?_⟩
    · simp only [oO, decide_eq_false_iff_not] at e
      obtain ⟨σ1, q1, q2, q3⟩ := t2 e
      refine ⟨σ1, ?_, q2, q3⟩
      show fc4_readCondition_12 N G (fu + 1) (some 11) x (nI k) σ = _
      rw [fc4_readCondition_12, y240, if_neg (nI_ge hk (by decide)), lq0 hR.1, bnd, (PR hR.1).1, bnd, y124, q1, bnd, if_pos rfl, retZ1]
    · simp only [oO, decide_eq_true_eq] at e
      obtain ⟨σ2, q1, q2, q3⟩ := t1 e
      have h2 := q2.sh aX_f hR.1
      refine ⟨σ2, q2, q3, ?_⟩
      show fc4_readCondition_12 N G (fu + 1) (some 11) x (nI k) σ = _
      have hlt : nx T p < T.1 := chr_in (by omega)
      have hR2 : RdC σ2 T (nx T p + 1) B := hR.ax q2 q3 (by have := nx_ge T p; omega) (by omega)
      rw [fc4_readCondition_12, y240, if_neg (nI_ge hk (by decide)), lq0 hR.1, bnd, (PR hR.1).1, bnd, y124, q1, bnd, if_neg one_z, ld11 h2, bnd, e, nI_1]
      cases hG : G.2.1 11 x σ2 with
      | none => rfl
      | some r =>
        rw [bnd, bnd, ld11 (hY.sh hR2 hG), bnd]) hN
  intro σ p A hR'
  have k2 := k σ p A hR'
  have e : bc4_readCondition N G 11 x σ = (G.2.1 11 x σ).bind fun r => if r.1 = 0 then retZ (0 : Int32) r.2 else fc4_readCondition_12 N G N (some 11) x (nI 0) r.2 := by
    rw [bc4_readCondition, ld11 hR'.1, bnd, ← y0]
  show ParC σ A (pCndR T Z R p) (bc4_readCondition N G 11 x σ)
  rw [e]
  exact k2
theorem deeper_y (h : Sh σ) (hp : mi σ 1 2 = nI p) {k : Nat} (hk : k < 6) : fc4_goesDeeper N 11 (nI k) σ = some (1, setI σ 1 2 (nI (p + 1))) := by
  rw [fc4_goesDeeper, y6, if_pos (nI_lt hk (by decide)), lq0 h, bnd, tq2 h hp, bnd, tp2 h, bnd, nI_1, retZ1]
theorem deeper_n {k : Nat} (hk : 6 ≤ k) (hk2 : k < 100) : fc4_goesDeeper N 11 (nI k) σ = some (0, σ) := by
  rw [fc4_goesDeeper, y6, if_neg (nI_nlt hk (by omega)), retZ0]
theorem ix_l : ∀ c, c < 256 → ixL (sb c) [111, 110, 119, 118, 115, 116] 0 = if ltrI c = 0 then -1 else nI (ltrI c - 1) := by decide +kernel
theorem lt_l {c : Nat} (hc : c < 256) (hN : 300 ≤ N) : fSr_indexOf N 1000022 (UInt32.toInt32 (Int32.toUInt32 (nI c) % 65536)) σ = some (if ltrI c = 0 then -1 else nI (ltrI c - 1), σ) := by
  rw [ixS (a := 1000022) (n := 6) (L := [111, 110, 119, 118, 115, 116]) (by decide) rfl rfl rfl (by decide) (by decide) hN hc, ix_l c hc]
theorem retZ_id {x : Int32} {σ : Me} (h : x = 0 ∨ x = 1) : retZ x σ = some (x, σ) := if_pos h
/-- a reading one deeper -/
def InC (T : Tx) (R : Option (Nat → Pr)) (k : Nat) (F : Me → Option (Int32 × Me)) : Prop := (R = none → k = 6) ∧ ∀ X, R = some X → k < 6 ∧ RdX T X F
theorem atom_c (hT : txOK T) (hN : 300 ≤ N) {R : Option (Nat → Pr)} (hG : GdR T R) {G : Rc4_readAtom} {k : Nat} (hI : InC T R k (fun σ => G.2.1 11 (nI (k + 1)) σ)) : RdX T (pAtom T R) (fun σ => bc4_readAtom N G 11 (nI k) σ) := by
  intro σ p A hR
  obtain ⟨σ1, q1, q2, q3⟩ := next_c (N := N) hR.1 hT hR.2.1 hR.2.2.1 hR.2.2.2.2.1 hN
  have h1 := q2.sh aX_f hR.1
  have hb := chr_lt hT (nx T p)
  have hg := nx_ge T p
  have hl := nx_le hR.2.2.2.2.1
  have h2 := hT.1
  have hR1 := hR.ax q2 q3 hg hl
  show ParC σ A (pAtm T R (nx T p)) (bc4_readAtom N G 11 (nI k) σ)
  unfold pAtm
  rw [bc4_readAtom, lq0 hR.1, bnd, (PR hR.1).1, bnd, q1, bnd]
  by_cases c1 : chr T (nx T p) = 91
  · rw [if_pos c1, if_pos ((chI y91 hb (by decide)).mpr c1), ld11 h1, bnd]
    have hlt : nx T p < T.1 := chr_in (by omega)
    cases hRe : R with
    | none =>
      have hk := hI.1 hRe
      rw [deeper_n (by omega) (by omega), bnd, if_pos rfl, retZ0]
      exact ⟨σ1, rfl, q2.al, q3⟩
    | some X =>
      obtain ⟨hk, hX⟩ := hI.2 X hRe
      have hs2 : Sh (setI σ1 1 2 (nI (nx T p + 1))) := h1
      have hR2 : RdC (setI σ1 1 2 (nI (nx T p + 1))) T (nx T p + 1) A := hR1.ax (fr_I rfl (Fr.rf _ _)) (mi_eq _ _ _ _) (by omega) (by omega)
      have f2 : Fr lrX σ (setI σ1 1 2 (nI (nx T p + 1))) := fr_I rfl q2.al
      rw [deeper_y h1 q3 hk, bnd, if_neg one_z, ld11 hs2, bnd, nI_1]
      have hx := hX _ _ _ hR2
      have hg2 := hG X hRe (nx T p + 1) (by omega)
      show ParC σ A (thn (X (nx T p + 1)) (pCl T 93)) _
      simp only at hx
      generalize X (nx T p + 1) = x at hx hg2 ⊢
      rcases x with a | ⟨r, D⟩
      · obtain ⟨σ3, y1, y2, y3⟩ := hx
        rw [y1, bnd, if_pos rfl, retZ0]
        exact ⟨σ3, rfl, f2.tr y2, y3⟩
      · obtain ⟨σ3, y1, y2, y3, y4⟩ := hx
        obtain ⟨g1, g2, g3, g4⟩ := hg2
        have hR3 := hR2.lx y2 y3 y4 g1 g3
        rw [y1, bnd, if_neg one_z, lq0 hR3.1, bnd, (PR hR3.1).1, bnd]
        obtain ⟨t1, t2⟩ := take_cc (N := N) (c := 93) hR3.1 hT hR3.2.1 hR3.2.2.1 hR3.2.2.2.2.1 hN (by decide)
        show ParC σ A (pCl T 93 r D) _
        unfold pCl
        rw [y93]
        by_cases c2 : chr T (nx T r) = 93
        · obtain ⟨σ4, w1, w2, w3⟩ := t1 c2
          rw [if_pos c2, w1, bnd, if_neg one_z, retZ1]
          exact ⟨σ4, rfl, f2.tr (y2.tr w2.al), w3, hR3.2.2.2.1.ax w2⟩
        · obtain ⟨σ4, w1, w2, w3⟩ := t2 c2
          rw [if_neg c2, w1, bnd, if_pos rfl, retZ0]
          exact ⟨σ4, rfl, f2.tr (y2.tr w2.al), w3⟩
  · have d22 : drS (some 1000022) = some 1000022 := rfl
    rw [if_neg c1, if_neg (fun w => c1 ((chI y91 hb (by decide)).mp w)), d22, bnd, lt_l hb hN, bnd]
    by_cases c2 : ltrI (chr T (nx T p)) = 0
    · rw [if_neg (fun w => w c2), if_pos c2, if_pos (show (-1 : Int32) < 0 by decide), lq0 h1, bnd, (PR h1).1, bnd, y4]
      obtain ⟨σ2, n1, n2, n3⟩ := number_c (N := N) (M := 4) h1 hT hR1.2.1 q3 hl hN (by decide)
      have hs2 := n2.sh aX_f h1
      rw [nx_nx] at n1 n3
      rw [n1, bnd]
      by_cases c3 : isD (chr T (nx T p)) = true
      · rw [if_pos c3] at n3
        rw [if_pos c3, if_pos c3]
        unfold pNum
        by_cases c4 : isD (chr T (dgN T 4 (nx T p) 0).1) = true
        · rw [if_pos c4, if_pos c4, if_pos rfl, retZ0]
          exact ⟨σ2, rfl, q2.al.tr n2.al, n3⟩
        · have hv := dgN_v T 4 (nx T p) 0 1 (by omega)
          have hlen : A.length < 240 := by
            have := hR.2.2.2.2.2
            have h3 : nx T p < T.1 := chr_in (by have := isD_le c3; omega)
            omega
          obtain ⟨σ3, w1, w2, w3, w4⟩ := write_c (N := N) (c := .inl (dgN T 4 (nx T p) 0).2) (v := nI (dgN T 4 (nx T p) 0).2) hs2 (hR1.2.2.2.1.ax n2) hlen rfl
          rw [if_neg c4, if_neg c4, if_neg (nI_m1 (by omega)), ld11 hs2, bnd, w1, bnd, if_neg one_z, retZ1]
          exact ⟨σ3, rfl, q2.al.tr (n2.al.tr w2), by rw [w3]; exact n3, w4⟩
      · rw [if_neg c3] at n3
        rw [if_neg c3, if_neg c3, if_pos rfl, retZ0]
        exact ⟨σ2, rfl, q2.al.tr n2.al, n3⟩
    · have h6 := ltrI_le (chr T (nx T p))
      have hlt : nx T p < T.1 := chr_in (fun w => c2 (by rw [w]; rfl))
      have hlen : A.length < 240 := by have := hR.2.2.2.2.2; omega
      have ev : (-1 : Int32) - nI (ltrI (chr T (nx T p)) - 1) = enc (.inr (ltrI (chr T (nx T p)))) := by
        have : ∀ k, k ≤ 6 → k ≠ 0 → (-1 : Int32) - nI (k - 1) = -nI k := by decide +kernel
        exact this _ h6 c2
      have hs2 : Sh (setI σ1 1 2 (nI (nx T p + 1))) := h1
      have f2 : Fr aX σ (setI σ1 1 2 (nI (nx T p + 1))) := fr_I rfl q2
      obtain ⟨σ3, w1, w2, w3, w4⟩ := write_c (N := N) (c := .inr (ltrI (chr T (nx T p)))) hs2 (hR.2.2.2.1.ax f2) hlen ev
      rw [if_pos c2, if_neg c2, if_neg (nI_pos (by omega)), lq0 h1, bnd, tq2 h1 q3, bnd, tp2 h1, bnd, nI_1, ld11 hs2, bnd, w1, bnd, retZ1]
      exact ⟨σ3, rfl, f2.al.tr w2, by rw [w3, mi_eq], w4⟩
end LR
