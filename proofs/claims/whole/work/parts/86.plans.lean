/-! plans, and years by draws, in the class -/
def sd (s : Nat × Nat × Int32) : Nat := s.2.2.toNatClampNeg
def spB (P : Pl) (r : Rw) (s : Nat × Nat × Int32) : Bool := if s.1 = 0 then decide (rt r < 999) else if s.1 = 1 then decide (s.2.1 < pn P) && (decide (1 ≤ sd s) && decide (sd s ≤ ro r s.2.1)) else if s.1 = 2 then decide (s.2.1 + 1 < pn P) && hedgeB r s.2.1 else decide (s.2.1 < pn P) && canB r s.2.1
def spG (P : Pl) (q : PF) (r : Rw) (s : Nat × Nat × Int32) : Rw := if s.1 = 0 then yrY P q r s.2.1 else if s.1 = 1 then rMist r s.2.1 (sd s) else if s.1 = 2 then rHedge r s.2.1 else rCan r s.2.1
def spV (P : Pl) (q : PF) (r : Rw) (s : Nat × Nat × Int32) : Nat := if s.1 = 0 then borY P q r s.2.1 else 0
theorem spG_B {P : Pl} {q : PF} {r : Rw} {s : Nat × Nat × Int32} (h : RwB (pn P) r) (ht : rt r < 1400) (hb : spB P r s = true) : RwB (pn P) (spG P q r s) ∧ rt r ≤ rt (spG P q r s) ∧ rt (spG P q r s) ≤ rt r + 1 := by
  unfold spB at hb
  unfold spG
  by_cases c0 : s.1 = 0
  · rw [if_pos c0]
    exact ⟨RwB.yr h (by omega), by show rt r ≤ rt r + 1; omega, by show rt r + 1 ≤ rt r + 1; omega⟩
  · rw [if_neg c0] at hb ⊢
    by_cases c1 : s.1 = 1
    · rw [if_pos c1] at hb ⊢
      simp only [Bool.and_eq_true, decide_eq_true_eq] at hb
      exact ⟨h.mist hb.1, Nat.le_refl _, Nat.le_succ _⟩
    · rw [if_neg c1] at hb ⊢
      by_cases c2 : s.1 = 2
      · rw [if_pos c2] at hb ⊢
        simp only [Bool.and_eq_true, decide_eq_true_eq] at hb
        exact ⟨h.hedge hb.1, Nat.le_refl _, Nat.le_succ _⟩
      · rw [if_neg c2] at hb ⊢
        simp only [Bool.and_eq_true, decide_eq_true_eq] at hb
        exact ⟨h.can hb.1, Nat.le_refl _, Nat.le_succ _⟩
section PS
variable {N : Nat} {σ : Me}
/-- a plan's cells at a step -/
theorem pn_step {pa : Nat} {p : Nat × (Nat → Nat × Nat × Int32)} (h : pnAt σ pa p) (hp : p.1 ≤ 16) {i : Nat} (hi : i < p.1) : qR σ 7 0 (some pa) = some (some (pa + 1)) ∧ qR σ 7 1 (some pa) = some (some (pa + 2)) ∧ qR σ 7 2 (some pa) = some (some (pa + 3)) ∧ qI σ 7 3 (some pa) = some (nI p.1) ∧ ldI σ (some (pa + 1)) (nI i) = some (nI (p.2 i).1) ∧ ldI σ (some (pa + 2)) (nI i) = some (nI (p.2 i).2.1) ∧ ldI σ (some (pa + 3)) (nI i) = some (p.2 i).2.2 := by
  obtain ⟨a1, a2, a3, a4, a5, a6, a7, a8, a9, a10⟩ := h
  obtain ⟨e1, e2, e3⟩ := a10 i hi
  have d := dr_ok a1
  refine ⟨?_, ?_, ?_, ?_, ?_, ?_, ?_⟩
  · unfold qR; rw [d, bnd, a6]
  · unfold qR; rw [d, bnd, a7]
  · unfold qR; rw [d, bnd, a8]
  · unfold qI; rw [d, bnd, a9]
  · rw [ldI_lo _ _ _ a2.2.2, kd_ar a2 (by decide) (by omega), bnd, nI_clamp (by omega), e1]
  · rw [ldI_lo _ _ _ a3.2.2, kd_ar a3 (by decide) (by omega), bnd, nI_clamp (by omega), e2]
  · rw [ldI_lo _ _ _ a4.2.2, kd_ar a4 (by decide) (by omega), bnd, nI_clamp (by omega), e3]
theorem isStep_c (h : Sh σ) {a : Nat} (ha : a = 19 ∨ a = 25) {P : Pl} {r : Rw} (hL : LdC σ a P r) (h6 : pn P ≤ 6) (hR : RwB (pn P) r) {pa i : Nat} {p : Nat × (Nat → Nat × Nat × Int32)} (hp : pnAt σ pa p) (hok : plOK p) (hi : i < p.1) : fc11_isStep N (some a) (some pa) (nI i) σ = some (bI (spB P r (p.2 i)), σ) := by
  obtain ⟨g0, g1, g2, -, l1, l2, l3⟩ := pn_step hp hok.2.1 hi
  obtain ⟨s1, s2, s3, s4, s5⟩ := hok.2.2 i hi
  generalize p.2 i = s at *
  obtain ⟨k0, -⟩ := h.ldk ha
  have ht := hR.2.1
  unfold spB
  by_cases c0 : s.1 = 0
  · rw [if_pos c0]
    rw [c0] at l1
    by_cases c : rt r < 999
    · have c' : ¬ 999 ≤ rt r := by omega
      simp (disch := omega) only [fc11_isStep, g0, bnd, l1, nI_0, if_true, if_false, ↓reduceIte, and_true, true_and, and_false, false_and, not_true_eq_false, not_false_eq_true, and_self, qI, k0, hL.2.2.2.2.1, y999, nI_leI, c, c', retZ1, decide_true]
      rfl
    · have c' : 999 ≤ rt r := by omega
      simp (disch := omega) only [fc11_isStep, g0, bnd, l1, nI_0, if_true, if_false, ↓reduceIte, and_true, true_and, and_false, false_and, not_true_eq_false, not_false_eq_true, and_self, qI, k0, hL.2.2.2.2.1, y999, nI_leI, c, c', retZ0, decide_false]
      rfl
  · rw [if_neg c0]
    have n0 : ¬ nI s.1 = 0 := nI_ne0 (by omega) (by omega)
    by_cases c1 : s.1 = 1
    · rw [if_pos c1]
      have n1 : nI s.1 = 1 := by rw [c1]; rfl
      obtain ⟨d, hd, ed⟩ := s4 c1
      have esd : sd s = d := by unfold sd; rw [ed, nI_clamp (by omega)]
      rw [esd]
      have hb : fc2_isMist N a (nI s.2.1) (nI d) σ = some (bI (decide (s.2.1 < pn P) && (decide (1 ≤ d) && decide (d ≤ ro r s.2.1))), σ) := by
        by_cases c : s.2.1 < pn P ∧ 1 ≤ d ∧ d ≤ ro r s.2.1
        · rw [isMist_y h ha hL h6 hR c.1 c.2.1 (by omega) c.2.2]
          simp only [c.1, c.2.1, c.2.2, decide_true, Bool.and_true]
          rfl
        · rw [isMist_n h ha hL h6 hR (fun ⟨i', m, q1, q2, q3, q4, q5, q6⟩ => c (by
            have e1 := nI_inj q5 (by omega) (by omega)
            have e2 := nI_inj q6 (by omega) (by omega)
            subst e1; subst e2
            exact ⟨q1, q2, q4⟩))]
          have : (decide (s.2.1 < pn P) && (decide (1 ≤ d) && decide (d ≤ ro r s.2.1))) = false := by
            simp only [Bool.and_eq_false_iff, decide_eq_false_iff_not]
            omega
          rw [this]; rfl
      have hz : ∀ t : Bool, retZ (bI t) σ = some (bI t, σ) := fun t => by cases t <;> rfl
      have n10 : ¬ (1 : Int32) = 0 := by decide
      simp (disch := omega) only [fc11_isStep, g0, g1, g2, bnd, l1, l2, l3, n1, n10, if_true, if_false, ↓reduceIte, and_true, true_and, and_false, false_and, not_true_eq_false, not_false_eq_true, and_self, k0, ed, hb, hz]
    · rw [if_neg c1]
      have n1 : ¬ nI s.1 = 1 := by rw [y1, nI_eq (by omega) (by decide)]; exact c1
      have hz : ∀ t : Bool, retZ (bI t) σ = some (bI t, σ) := fun t => by cases t <;> rfl
      by_cases c2 : s.1 = 2
      · rw [if_pos c2]
        have n2 : nI s.1 = 2 := by rw [c2]; rfl
        have n20 : ¬ (2 : Int32) = 0 := by decide
        have n21 : ¬ (2 : Int32) = 1 := by decide
        have hb : fc2_isHedge N a (nI s.2.1) σ = some (bI (decide (s.2.1 + 1 < pn P) && hedgeB r s.2.1), σ) := by
          by_cases c : s.2.1 + 1 < pn P
          · rw [isHedge_c h ha hL h6 hR c]
            simp only [c, decide_true, Bool.true_and]
            cases hedgeB r s.2.1 <;> rfl
          · rw [isHedge_n h ha hL h6 (fun ⟨i', q1, q2⟩ => c (by
              have e1 := nI_inj q2 (by omega) (by omega)
              omega))]
            simp only [c, decide_false, Bool.false_and]
            rfl
        simp (disch := omega) only [fc11_isStep, g0, g1, bnd, l1, l2, n2, n20, n21, if_true, if_false, ↓reduceIte, and_true, true_and, and_false, false_and, not_true_eq_false, not_false_eq_true, and_self, k0, hb, hz]
      · rw [if_neg c2]
        have n2 : ¬ nI s.1 = 2 := by rw [y2, nI_eq (by omega) (by decide)]; exact c2
        have hb : fc2_isCan N a (nI s.2.1) σ = some (bI (decide (s.2.1 < pn P) && canB r s.2.1), σ) := by
          by_cases c : s.2.1 < pn P
          · rw [isCan_c h ha hL h6 hR c]
            simp only [c, decide_true, Bool.true_and]
            cases canB r s.2.1 <;> rfl
          · rw [isCan_n h ha hL h6 (.inr (nI_le (by omega) (by omega)))]
            simp only [c, decide_false, Bool.false_and]
            rfl
        simp (disch := omega) only [fc11_isStep, g0, g1, bnd, l1, l2, n0, n1, n2, if_true, if_false, ↓reduceIte, and_true, true_and, and_false, false_and, not_true_eq_false, not_false_eq_true, and_self, k0, hb, hz]
theorem take_c (h : Sh σ) {a : Nat} (ha : a = 19 ∨ a = 25) {P : Pl} {q : PF} {r : Rw} (hL : LdC σ a P r) (h6 : pn P ≤ 6) (hR : RwB (pn P) r) {pa i : Nat} {p : Nat × (Nat → Nat × Nat × Int32)} (hp : pnAt σ pa p) (hok : plOK p) (hi : i < p.1) (h0 : (p.2 i).1 ≠ 0) (hb : spB P r (p.2 i) = true) (hN : 10 ≤ N) : ∃ σ' : Me, fc11_take N (some a) (some pa) (nI i) σ = some ((), σ') ∧ Fr (ldS a) σ σ' ∧ LdC σ' a P (spG P q r (p.2 i)) := by
  obtain ⟨g0, g1, g2, -, l1, l2, l3⟩ := pn_step hp hok.2.1 hi
  obtain ⟨s1, s2, s3, s4, s5⟩ := hok.2.2 i hi
  generalize p.2 i = s at *
  obtain ⟨k0, -⟩ := h.ldk ha
  unfold spB at hb
  unfold spG
  rw [if_neg h0] at hb ⊢
  by_cases c1 : s.1 = 1
  · rw [if_pos c1] at hb ⊢
    simp only [Bool.and_eq_true, decide_eq_true_eq] at hb
    obtain ⟨d, hd, ed⟩ := s4 c1
    have esd : sd s = d := by unfold sd; rw [ed, nI_clamp (by omega)]
    rw [esd] at hb ⊢
    obtain ⟨σ', m1, m2, m3⟩ := mist_c (N := N) h ha hL h6 hR hb.1 hb.2.2 hN
    refine ⟨σ', ?_, m2, m3⟩
    have n1 : nI s.1 = 1 := by rw [c1]; rfl
    simp (disch := omega) only [fc11_take, g0, g1, g2, bnd, l1, l2, l3, n1, if_true, if_false, ↓reduceIte, and_true, true_and, and_false, false_and, not_true_eq_false, not_false_eq_true, and_self, k0, ed, m1]
  · rw [if_neg c1] at hb ⊢
    have n1 : ¬ nI s.1 = 1 := by rw [y1, nI_eq (by omega) (by decide)]; exact c1
    by_cases c2 : s.1 = 2
    · rw [if_pos c2] at hb ⊢
      simp only [Bool.and_eq_true, decide_eq_true_eq] at hb
      obtain ⟨σ', m1, m2, m3⟩ := hedge_c (N := N) h ha hL h6 hb.1
      refine ⟨σ', ?_, m2, m3⟩
      have n2 : nI s.1 = 2 := by rw [c2]; rfl
      have n21 : ¬ (2 : Int32) = 1 := by decide
      simp (disch := omega) only [fc11_take, g0, g1, bnd, l1, l2, n2, n21, if_true, if_false, ↓reduceIte, and_true, true_and, and_false, false_and, not_true_eq_false, not_false_eq_true, and_self, k0, m1]
    · rw [if_neg c2] at hb ⊢
      simp only [Bool.and_eq_true, decide_eq_true_eq] at hb
      have n2 : ¬ nI s.1 = 2 := by rw [y2, nI_eq (by omega) (by decide)]; exact c2
      obtain ⟨σ', m1, m2, m3⟩ := can_c (N := N) h ha hL h6 hR hb.1 hb.2
      refine ⟨σ', ?_, m2, m3⟩
      simp (disch := omega) only [fc11_take, g0, g1, bnd, l1, l2, n1, n2, if_true, if_false, ↓reduceIte, and_true, true_and, and_false, false_and, not_true_eq_false, not_false_eq_true, and_self, k0, m1]
/-- a plan tried: the first step that can't be, what was borne -/
def rnN (P : Pl) (q : PF) (p : Nat → Nat × Nat × Int32) : Nat → Nat → Rw → Nat → Option Nat × Nat
  | 0, _, _, acc => (none, acc)
  | m + 1, i, r, acc => if spB P r (p i) = true then rnN P q p m (i + 1) (spG P q r (p i)) (acc + spV P q r (p i)) else (some i, acc)
def rnA (w : Nat) (o : Option Nat × Nat) : Int32 := if w = 0 then oI o.1 else nI o.2
theorem planAt_y (h : Sh σ) {ps : List PnE} (hp : PnC σ ps) (h4 : ps.length ≤ 4) {k : Nat} {e : PnE} (he : ps[k]? = some e) : fc11_planAt N 0 (nI k) σ = some (some e.1, σ) := by
  have hk : k < ps.length := by
    rcases Nat.lt_or_ge k ps.length with q | q
    · exact q
    · rw [List.getElem?_eq_none q] at he; cases he
  have c0 := nI_pos (n := k) (by omega)
  have a1 := h.ar 18 4 (by decide) rfl (by decide) k (by omega)
  have r1 := (hp.2 k e he).1
  simp (disch := omega) only [fc11_planAt, c0, if_true, if_false, ↓reduceIte, and_true, true_and, and_false, false_and, not_true_eq_false, not_false_eq_true, and_self, qI, qR, PK h, bnd, hp.1, nI_ltI, hk, ldR, a1, nI_clamp, r1]
theorem planAt_n (h : Sh σ) {ps : List PnE} (hp : PnC σ ps) (h4 : ps.length ≤ 4) {x : Int32} (hx : x < 0 ∨ nI ps.length ≤ x) : fc11_planAt N 0 x σ = some (none, σ) := by
  by_cases c0 : x < 0
  · simp (disch := omega) only [fc11_planAt, fc11_planAt_12, c0, if_true, if_false, ↓reduceIte, and_true, true_and, and_false, false_and, not_true_eq_false, not_false_eq_true, and_self]
  · have c1 : ¬ x < nI ps.length := by
      have := hx.resolve_left c0
      rw [i_toInt_le] at this
      rw [i_toInt_lt]
      omega
    simp (disch := omega) only [fc11_planAt, fc11_planAt_12, c0, if_true, if_false, ↓reduceIte, and_true, true_and, and_false, false_and, not_true_eq_false, not_false_eq_true, and_self, qI, PK h, bnd, hp.1, c1]
theorem year25b {P : Pl} {r : Rw} {q : PF} {b : Nat} (h : Qc N σ P r q b) {r' : Rw} (hL : LdC σ 25 P r') (hR : RwB (pn P) r') {rain : Nat} (hr : rain ≤ 99) : ∃ σ1 σ2 : Me, fc9_look N 31 (some 25) (nI rain) σ = some ((), σ1) ∧ fc9_settle N 31 (some 25) σ1 = some ((), σ2) ∧ Fr (cX b) σ σ1 ∧ Fr (cX b) σ1 σ2 ∧ mi σ2 31 9 = nI (borY P q r' rain) ∧ LdC σ2 25 P (yrY P q r' rain) := by
  obtain ⟨σ1, a1, a2, a3, a4⟩ := look25 h hL hR hr
  have h1 := h.fr a2
  have h9 := h.2.2.2.2.2.2.2.2
  obtain ⟨σ2, b1, b2, b3⟩ := settle_c (N := N) h1.1 (.inr rfl) a4 h1.2.2.1 hR a3 hr (by omega)
  exact ⟨σ1, σ2, a1, b1, a2, b2.mono (fun a j e => u25_c e), by rw [b2.i rfl]; exact a3.2.2.2.1, b3⟩
theorem run49_c {P : Pl} {r : Rw} {q : PF} {b : Nat} (h0 : Qc N σ P r q b) {pa w : Nat} {p : Nat × (Nat → Nat × Nat × Int32)} (hp : ∀ τ : Me, Fr (cX b) σ τ → pnAt τ pa p) (hok : plOK p) (hw : w ≤ 1) : ∀ (m i fu : Nat) (r' : Rw) (acc : Nat) (τ : Me), i + m = p.1 → m < fu → acc ≤ 2000 * i → rt r' ≤ rt r + i → RwB (pn P) r' → Fr (cX b) σ τ → LdC τ 25 P r' →
    ∃ σ' : Me, fc11_run_49 N fu (some 0) (nI w) (some pa) (nI acc) (nI i) τ = some (rnA w (rnN P q p.2 m i r' acc), σ') ∧ Fr (cX b) σ σ'
  | _, _, 0, _, _, _, _, h0, _, _, _, _, _ => absurd h0 (Nat.not_lt_zero _)
  | 0, i, fu + 1, r', acc, τ, hi, _, hacc, hrt, hRB, i1, i2 => by
    have hτ := hp τ i1
    obtain ⟨a1, a2, a3, a4, a5, a6, a7, a8, a9, a10⟩ := hτ
    have d := dr_ok a1
    refine ⟨τ, ?_, i1⟩
    have c : p.1 ≤ i := by omega
    have h16 := hok.2.1
    rw [rnN]
    have g3 : qI τ 7 3 (some pa) = some (nI p.1) := by unfold qI; rw [d, bnd, a9]
    rw [fc11_run_49, g3, bnd, if_pos (nI_le c (by omega))]
    by_cases hw0 : w = 0
    · subst hw0
      rfl
    · have hw1 : ¬ nI w = 0 := nI_ne0 (by omega) (by omega)
      rw [if_neg hw1, rnA, if_neg hw0]
  | m + 1, i, fu + 1, r', acc, τ, hi, hfu, hacc, hrt, hRB, i1, i2 => by
    have hq := h0.fr i1
    have b6 := h0.2.2.1.1
    have h9 := h0.2.2.2.2.2.2.2.2
    have ht := h0.2.2.2.2.2.1
    have hτ := hp τ i1
    have hi1 : i < p.1 := by omega
    obtain ⟨g0, g1, g2, g3, l1, l2, l3⟩ := pn_step hτ hok.2.1 hi1
    obtain ⟨s1, s2, s3, s4, s5⟩ := hok.2.2 i hi1
    have h16 := hok.2.1
    have ist := isStep_c (N := N) hq.1 (.inr rfl) i2 b6 hRB hτ hok hi1
    have c : ¬ p.1 ≤ i := by omega
    have c10 : ¬ (1 : Int32) = 0 := by decide
    rw [rnN]
    by_cases hb : spB P r' (p.2 i) = true
    · rw [hb, bI_t] at ist
      rw [if_pos hb]
      obtain ⟨j1, j2, j3⟩ := spG_B (q := q) hRB (by omega) hb
      by_cases hk0 : (p.2 i).1 = 0
      · have eG : spG P q r' (p.2 i) = yrY P q r' (p.2 i).2.1 := by unfold spG; rw [if_pos hk0]
        have eV : spV P q r' (p.2 i) = borY P q r' (p.2 i).2.1 := by unfold spV; rw [if_pos hk0]
        obtain ⟨τ1, τ2, e1, e2, e3, e4, e5, e6⟩ := year25b hq i2 hRB (rain := (p.2 i).2.1) s2
        have hq1 := hq.fr e3
        have hq2 := hq1.fr e4
        have hbor := borY_le (q := q) h0.2.2.1 r' (p.2 i).2.1
        obtain ⟨σ', z1, z2⟩ := run49_c h0 hp hok hw m (i + 1) fu (spG P q r' (p.2 i)) (acc + spV P q r' (p.2 i)) τ2 (by omega) (by omega) (by rw [eV]; omega) (by omega) j1 ((i1.tr e3).tr e4) (by rw [eG]; exact e6)
        refine ⟨σ', ?_, z2⟩
        rw [← z1, eV]
        rw [hk0] at l1
        have r11 : qR τ 11 11 (some 0) = some (some 25) := by simp only [qR, PK hq.1, bnd]
        have r12 : qR τ 11 12 (some 0) = some (some 31) := by simp only [qR, PK hq.1, bnd]
        have r11' : qR τ1 11 11 (some 0) = some (some 25) := by simp only [qR, PK hq1.1, bnd]
        have r12' : qR τ1 11 12 (some 0) = some (some 31) := by simp only [qR, PK hq1.1, bnd]
        have r12'' : qR τ2 11 12 (some 0) = some (some 31) := by simp only [qR, PK hq2.1, bnd]
        have q9 : qI τ2 9 9 (some 31) = some (nI (borY P q r' (p.2 i).2.1)) := by simp only [qI, PK hq2.1, bnd, e5]
        have d31 : dr τ (some 31) (.inl 9) = some 31 := by simp only [PK hq.1]
        have d31' : dr τ1 (some 31) (.inl 9) = some 31 := by simp only [PK hq1.1]
        rw [fc11_run_49, g3, bnd, if_neg (nI_ge (by omega) (by omega)), r11, bnd, ist, bnd, if_neg c10]
        simp only [g0, bnd, l1, nI_0, if_true, if_false, ↓reduceIte, and_true, true_and, and_false, false_and, not_true_eq_false, not_false_eq_true, and_self, r12, r11, g1, l2, d31, e1, r12', r11', d31', e2, r12'', q9, fc11_run_147, nI_add, nI_1]
      · have eV : spV P q r' (p.2 i) = 0 := by unfold spV; rw [if_neg hk0]
        obtain ⟨τ1, e1, e2, e3⟩ := take_c (N := N) (q := q) hq.1 (.inr rfl) i2 b6 hRB hτ hok hi1 hk0 hb (by omega)
        have e2c : Fr (cX b) τ τ1 := e2.mono (fun a j e => ld25_c e)
        have hq1 := hq.fr e2c
        obtain ⟨σ', z1, z2⟩ := run49_c h0 hp hok hw m (i + 1) fu (spG P q r' (p.2 i)) (acc + spV P q r' (p.2 i)) τ1 (by omega) (by omega) (by rw [eV]; omega) (by omega) j1 (i1.tr e2c) e3
        refine ⟨σ', ?_, z2⟩
        rw [← z1, eV, Nat.add_zero]
        have n0 : ¬ nI (p.2 i).1 = 0 := nI_ne0 (by omega) (by omega)
        have r11 : qR τ 11 11 (some 0) = some (some 25) := by simp only [qR, PK hq.1, bnd]
        rw [fc11_run_49, g3, bnd, if_neg (nI_ge (by omega) (by omega)), r11, bnd, ist, bnd, if_neg c10]
        simp only [g0, bnd, l1, n0, if_true, if_false, ↓reduceIte, and_true, true_and, and_false, false_and, not_true_eq_false, not_false_eq_true, and_self, r11, e1, fc11_run_147, nI_1]
        rfl
    · have hb' : spB P r' (p.2 i) = false := by simpa using hb
      rw [hb', bI_f] at ist
      rw [if_neg hb]
      refine ⟨τ, ?_, i1⟩
      have r11 : qR τ 11 11 (some 0) = some (some 25) := by simp only [qR, PK hq.1, bnd]
      rw [fc11_run_49, g3, bnd, if_neg (nI_ge (by omega) (by omega)), r11, bnd, ist, bnd, if_pos rfl]
      by_cases hw0 : w = 0
      · subst hw0
        rfl
      · have hw1 : ¬ nI w = 0 := nI_ne0 (by omega) (by omega)
        rw [if_neg hw1, rnA, if_neg hw0]
theorem pn_fr {S : Sy} (hr : RC σ S) (hw : WS S) {k : Nat} {e : PnE} (he : (sP S)[k]? = some e) : ∀ τ : Me, Fr (cX (sB S)) σ τ → pnAt τ e.1 e.2 := fun τ hτ =>
  ((hr.fr hτ (bOf_ok _ _) hw.n6).2.2.1.2 k e he).2
theorem run_c {S : Sy} (h : Sh σ) (hr : RC σ S) (hw : WS S) (h0 : pn (sQ S) ≠ 0) (hN : 300 ≤ N) {k w : Nat} {e : PnE} (he : (sP S)[k]? = some e) (hw1 : w ≤ 1) : ∃ σ' : Me, fc11_run N 0 (nI k) (nI w) σ = some (rnA w (rnN (sQ S) (sq S) e.2.2 e.2.1 0 (sR S) 0), σ') ∧ Fr (cX (sB S)) σ σ' := by
  have hq := Qc_of h hr hw h0 hN
  have b6 := hw.n6
  have hok := hw.2.2.2.2.2.1 k e he
  have h16 := hok.2.1
  obtain ⟨σ1, c1, c2, c3⟩ := copy25 hq
  obtain ⟨σ', z1, z2⟩ := run49_c hq (pn_fr hr hw he) hok hw1 e.2.1 0 N (sR S) 0 σ1 (by omega) (by omega) (by omega) (by omega) hq.2.2.2.1 c2 c3
  refine ⟨σ', ?_, z2⟩
  rw [← z1]
  have n0 : ¬ (some e.1 : Option Nat) = none := by simp
  have d0 : ¬ nI (pn (sQ S)) = 0 := nI_ne0 (by omega) (by omega)
  have d1 := nI_pos (n := w) (by omega)
  have d2 : nI w ≤ 1 := by rw [y1]; exact nI_le hw1 (by decide)
  simp (disch := omega) only [fc11_run, PK h, bnd, planAt_y h hr.2.2.1 hw.2.2.2.2.1 he, n0, if_true, if_false, ↓reduceIte, and_true, true_and, and_false, false_and, not_true_eq_false, not_false_eq_true, and_self, qR, qI, hq.2.1.1, d0, d1, d2, c1]
  rfl
theorem run_n {S : Sy} (h : Sh σ) (hr : RC σ S) (hw : WS S) {x y : Int32} (hx : ¬ ∃ (k w : Nat) (e : PnE), (sP S)[k]? = some e ∧ pn (sQ S) ≠ 0 ∧ w ≤ 1 ∧ x = nI k ∧ y = nI w) : fc11_run N 0 x y σ = some (-1000000, σ) := by
  have b6 := hw.n6
  have h4 := hw.2.2.2.2.1
  have hn := hr.2.2.2.2.1.1.1
  rcases nix x (n := (sP S).length) (by omega) with q | ⟨k, hk, rfl⟩
  · simp (disch := omega) only [fc11_run, PK h, bnd, planAt_n h hr.2.2.1 h4 q, if_true, if_false, ↓reduceIte, and_true, true_and, and_false, false_and, not_true_eq_false, not_false_eq_true, and_self]
  · have he := List.getElem?_eq_getElem hk
    have n0 : ¬ (some (sP S)[k].1 : Option Nat) = none := by simp
    by_cases h0 : pn (sQ S) = 0
    · rw [h0] at hn
      simp (disch := omega) only [fc11_run, PK h, bnd, planAt_y h hr.2.2.1 h4 he, n0, if_true, if_false, ↓reduceIte, and_true, true_and, and_false, false_and, not_true_eq_false, not_false_eq_true, and_self, qR, qI, hn, nI_0]
    · have d0 : ¬ nI (pn (sQ S)) = 0 := nI_ne0 (by omega) (by omega)
      by_cases c1 : y < 0
      · simp (disch := omega) only [fc11_run, PK h, bnd, planAt_y h hr.2.2.1 h4 he, n0, if_true, if_false, ↓reduceIte, and_true, true_and, and_false, false_and, not_true_eq_false, not_false_eq_true, and_self, qR, qI, hn, d0, c1]
      · by_cases c2 : y ≤ 1
        · exfalso
          obtain ⟨w, hw', rfl⟩ := nI_of c1
          rw [y1, nI_leI hw' (by decide)] at c2
          exact hx ⟨k, w, _, he, h0, c2, rfl, rfl⟩
        · simp (disch := omega) only [fc11_run, PK h, bnd, planAt_y h hr.2.2.1 h4 he, n0, if_true, if_false, ↓reduceIte, and_true, true_and, and_false, false_and, not_true_eq_false, not_false_eq_true, and_self, qR, qI, hn, d0, c1, c2]
theorem step_c {S : Sy} (h : Sh σ) (hr : RC σ S) (hw : WS S) {k i w : Nat} {e : PnE} (he : (sP S)[k]? = some e) (hi : i < e.2.1) (hw2 : w ≤ 2) : fc11_step N 0 (nI k) (nI i) (nI w) σ = some (if w = 0 then nI (e.2.2 i).1 else if w = 1 then nI (e.2.2 i).2.1 else (e.2.2 i).2.2, σ) := by
  have hok := hw.2.2.2.2.2.1 k e he
  have h16 := hok.2.1
  have hp := (hr.2.2.1.2 k e he).2
  obtain ⟨g0, g1, g2, g3, l1, l2, l3⟩ := pn_step hp h16 hi
  have n0 : ¬ (some e.1 : Option Nat) = none := by simp
  have d1 := nI_pos (n := i) (by omega)
  have c1 : ¬ e.2.1 ≤ i := by omega
  have d2 := nI_pos (n := w) (by omega)
  have d3 : nI w ≤ 2 := by rw [y2]; exact nI_le hw2 (by decide)
  have : w = 0 ∨ w = 1 ∨ w = 2 := by omega
  rcases this with rfl | rfl | rfl
  · have d4 : nI 0 = 0 := rfl
    have d2' : ¬ (0 : Int32) < 0 := by decide
    have d3' : (0 : Int32) ≤ 2 := by decide
    simp (disch := omega) only [fc11_step, PK h, bnd, planAt_y h hr.2.2.1 hw.2.2.2.2.1 he, n0, if_true, if_false, ↓reduceIte, and_true, true_and, and_false, false_and, not_true_eq_false, not_false_eq_true, and_self, d1, g3, nI_leI, c1, d4, d2', d3', g0, l1]
  · have d5 : ¬ nI 1 = 0 := by decide
    have d6 : nI 1 = 1 := rfl
    have d7 : ¬ (1 : Nat) = 0 := by decide
    simp (disch := omega) only [fc11_step, PK h, bnd, planAt_y h hr.2.2.1 hw.2.2.2.2.1 he, n0, if_true, if_false, ↓reduceIte, and_true, true_and, and_false, false_and, not_true_eq_false, not_false_eq_true, and_self, d1, g3, nI_leI, c1, d2, d3, d5, d7, g1, l2]
    rw [if_pos d6]
  · have d5 : ¬ nI 2 = 0 := by decide
    have d6 : ¬ nI 2 = 1 := by decide
    have d7 : ¬ (2 : Nat) = 0 := by decide
    have d8 : ¬ (2 : Nat) = 1 := by decide
    simp (disch := omega) only [fc11_step, PK h, bnd, planAt_y h hr.2.2.1 hw.2.2.2.2.1 he, n0, if_true, if_false, ↓reduceIte, and_true, true_and, and_false, false_and, not_true_eq_false, not_false_eq_true, and_self, d1, g3, nI_leI, c1, d2, d3, d5, d6, d7, d8, g2, l3]
theorem step_n {S : Sy} (h : Sh σ) (hr : RC σ S) (hw : WS S) {x y z : Int32} (hx : ¬ ∃ (k i w : Nat) (e : PnE), (sP S)[k]? = some e ∧ i < e.2.1 ∧ w ≤ 2 ∧ x = nI k ∧ y = nI i ∧ z = nI w) : fc11_step N 0 x y z σ = some (-1000000, σ) := by
  have h4 := hw.2.2.2.2.1
  rcases nix x (n := (sP S).length) (by omega) with q | ⟨k, hk, rfl⟩
  · simp (disch := omega) only [fc11_step, PK h, bnd, planAt_n h hr.2.2.1 h4 q, if_true, if_false, ↓reduceIte, and_true, true_and, and_false, false_and, not_true_eq_false, not_false_eq_true, and_self]
  · have he := List.getElem?_eq_getElem hk
    generalize (sP S)[k] = e at he
    have hok := hw.2.2.2.2.2.1 k e he
    have h16 := hok.2.1
    have h1 := hok.1
    have hp := (hr.2.2.1.2 k e he).2
    obtain ⟨g0, g1, g2, g3, -, -, -⟩ := pn_step hp h16 (show 0 < e.2.1 by omega)
    have n0 : ¬ (some e.1 : Option Nat) = none := by simp
    by_cases c1 : y < 0
    · simp (disch := omega) only [fc11_step, PK h, bnd, planAt_y h hr.2.2.1 h4 he, n0, if_true, if_false, ↓reduceIte, and_true, true_and, and_false, false_and, not_true_eq_false, not_false_eq_true, and_self, c1]
    · by_cases c2 : nI e.2.1 ≤ y
      · simp (disch := omega) only [fc11_step, PK h, bnd, planAt_y h hr.2.2.1 h4 he, n0, if_true, if_false, ↓reduceIte, and_true, true_and, and_false, false_and, not_true_eq_false, not_false_eq_true, and_self, c1, g3, c2]
      · by_cases c3 : z < 0
        · simp (disch := omega) only [fc11_step, PK h, bnd, planAt_y h hr.2.2.1 h4 he, n0, if_true, if_false, ↓reduceIte, and_true, true_and, and_false, false_and, not_true_eq_false, not_false_eq_true, and_self, c1, g3, c2, c3]
        · by_cases c4 : z ≤ 2
          · exfalso
            obtain ⟨i, hi, rfl⟩ := nI_of c1
            obtain ⟨w, hw', rfl⟩ := nI_of c3
            rw [nI_leI (by omega) hi] at c2
            rw [y2, nI_leI hw' (by decide)] at c4
            exact hx ⟨k, i, w, e, he, by omega, c4, rfl, rfl, rfl⟩
          · simp (disch := omega) only [fc11_step, PK h, bnd, planAt_y h hr.2.2.1 h4 he, n0, if_true, if_false, ↓reduceIte, and_true, true_and, and_false, false_and, not_true_eq_false, not_false_eq_true, and_self, c1, g3, c2, c3, c4]
/-! a plan performed -/
def spS (S : Sy) (s : Nat × Nat × Int32) : Sy := if s.1 = 0 then yrS S s.2.1 else acS S (spG (sQ S) (sq S) (sR S) s)
def pfN (p : Nat → Nat × Nat × Int32) : Nat → Nat → Sy → Nat × Sy
  | 0, i, S => (i, S)
  | m + 1, i, S => if spB (sQ S) (sR S) (p i) = true then pfN p m (i + 1) (spS S (p i)) else (i, S)
theorem spS_ok {S : Sy} {s : Nat × Nat × Int32} (hw : WS S) (h0 : pn (sQ S) ≠ 0) (hb : spB (sQ S) (sR S) s = true) : WS (spS S s) := by
  obtain ⟨a1, a2, a3, a4, -⟩ := hw.hs.yes h0
  unfold spS
  by_cases c : s.1 = 0
  · rw [if_pos c]
    refine yrS_ok hw h0 ?_
    unfold spB at hb
    rw [if_pos c] at hb
    exact of_decide_eq_true hb
  · rw [if_neg c]
    obtain ⟨j1, j2, j3⟩ := spG_B (q := sq S) a3 (by omega) hb
    have j4 : rt (spG (sQ S) (sq S) (sR S) s) = rt (sR S) := by
      unfold spG
      rw [if_neg c]
      split
      · rfl
      · split <;> rfl
    exact hw.hs' (hw.hs.push h0 j1 (by omega) j2 j3)
theorem perform24_c (hN : 300 ≤ N) {e : PnE} (hok : plOK e.2) {k : Nat} : ∀ (m i fu : Nat) (S : Sy) (σ : Me), i + m = e.2.1 → m < fu → Sh σ → RC σ S → WS S → pn (sQ S) ≠ 0 → (sP S)[k]? = some e →
    ∃ σ' : Me, fc11_perform_24 N fu (some 0) (some e.1) (nI i) σ = some (nI (pfN e.2.2 m i S).1, σ') ∧ Sh σ' ∧ Fr (hX (sB S)) σ σ' ∧ RC σ' (pfN e.2.2 m i S).2 ∧ WS (pfN e.2.2 m i S).2
  | _, _, 0, _, _, _, h0, _, _, _, _, _ => absurd h0 (Nat.not_lt_zero _)
  | 0, i, fu + 1, S, σ, hi, _, h, hr, hw, h0, he => by
    have hp := (hr.2.2.1.2 k e he).2
    have h16 := hok.2.1
    have h1 := hok.1
    obtain ⟨-, -, -, g3, -, -, -⟩ := pn_step hp h16 (show 0 < e.2.1 by omega)
    refine ⟨σ, ?_, h, Fr.rf _ _, hr, hw⟩
    rw [fc11_perform_24, g3, bnd, if_pos (nI_le (by omega) (by omega)), bnd]
    show some (nI e.2.1, σ) = some (nI i, σ)
    rw [show e.2.1 = i by omega]
  | m + 1, i, fu + 1, S, σ, hi, hfu, h, hr, hw, h0, he => by
    have hp := (hr.2.2.1.2 k e he).2
    have h16 := hok.2.1
    have hi1 : i < e.2.1 := by omega
    obtain ⟨g0, g1, g2, g3, l1, l2, l3⟩ := pn_step hp h16 hi1
    obtain ⟨s1, s2, s3, s4, s5⟩ := hok.2.2 i hi1
    obtain ⟨a1, a2, a3, a4, -⟩ := hw.hs.yes h0
    have b6 := a2.1
    have hL := hr.2.2.2.2.1.1
    have ist := isStep_c (N := N) h (.inl rfl) hL b6 a3 hp hok hi1
    have c10 : ¬ (1 : Int32) = 0 := by decide
    have r10 : qR σ 11 10 (some 0) = some (some 19) := by simp only [qR, PK h, bnd]
    have r14 : qR σ 11 14 (some 0) = some (some 41) := by simp only [qR, PK h, bnd]
    have d41 : dr σ (some 41) (.inl 5) = some 41 := by simp only [PK h]
    rw [pfN]
    by_cases hb : spB (sQ S) (sR S) (e.2.2 i) = true
    · rw [hb, bI_t] at ist
      rw [if_pos hb]
      have hwS := spS_ok hw h0 hb
      by_cases hk0 : (e.2.2 i).1 = 0
      · have eS : spS S (e.2.2 i) = yrS S (e.2.2 i).2.1 := by unfold spS; rw [if_pos hk0]
        have ht : rt (sR S) < 999 := by
          unfold spB at hb
          rw [if_pos hk0] at hb
          exact of_decide_eq_true hb
        obtain ⟨σ1, σ2, e1, e2, e3, e4, e5, e6, e7, e8⟩ := yearH (N := N) h hr hw h0 hN s2 ht
        rw [eS] at hwS ⊢
        obtain ⟨σ', z1, z2, z3, z4, z5⟩ := perform24_c hN hok m (i + 1) fu (yrS S (e.2.2 i).2.1) σ2 (by omega) (by omega) e6 e8 hwS h0 he
        refine ⟨σ', ?_, z2, e7.tr z3, z4, z5⟩
        rw [← z1]
        have hp1 : pnAt σ1 e.1 e.2 := hp.fr e5 (fun j => by
          have h85 : 85 ≤ e.1 := hp.2.2.2.2.1
          simp [keS]; omega)
        obtain ⟨g0', g1', -, -, l1', l2', -⟩ := pn_step hp1 h16 hi1
        have d0 : dr σ1 (some 0) (.inl 11) = some 0 := by simp only [PK e3]
        rw [hk0] at l1'
        rw [fc11_perform_24, g3, bnd, if_neg (nI_ge (by omega) (by omega)), r10, bnd, ist, bnd, if_neg c10]
        simp only [r14, bnd, r10, d41, e1, g0', l1', nI_0, if_true, if_false, ↓reduceIte, and_true, true_and, and_false, false_and, not_true_eq_false, not_false_eq_true, and_self, g1', l2', d0, e2, fc11_perform_89, nI_1]
      · have eS : spS S (e.2.2 i) = acS S (spG (sQ S) (sq S) (sR S) (e.2.2 i)) := by unfold spS; rw [if_neg hk0]
        obtain ⟨σ1, k1, k2, k3, k4, k5, k6, k7⟩ := keepH (N := N) h hr hw h0
        have hp1 : pnAt σ1 e.1 e.2 := hp.fr k3 (fun j => by
          have h85 : 85 ≤ e.1 := hp.2.2.2.2.1
          simp [keS]; omega)
        obtain ⟨σ2, t1, t2, t3⟩ := take_c (N := N) (q := sq S) k2 (.inl rfl) k4 b6 a3 hp1 hok hi1 hk0 hb (by omega)
        have j4 : rt (spG (sQ S) (sq S) (sR S) (e.2.2 i)) = rt (sR S) := by
          unfold spG
          rw [if_neg hk0]
          split
          · rfl
          · split <;> rfl
        obtain ⟨j1, -, -⟩ := spG_B (q := sq S) a3 (by omega) hb
        obtain ⟨e1, e2, e3, e4⟩ := actH h hr hw h0 k2 k3 k5 k6 k7 t2 t3 j4 j1
        rw [eS] at hwS ⊢
        obtain ⟨σ', z1, z2, z3, z4, z5⟩ := perform24_c hN hok m (i + 1) fu (acS S (spG (sQ S) (sq S) (sR S) (e.2.2 i))) σ2 (by omega) (by omega) e1 e3 hwS h0 he
        refine ⟨σ', ?_, z2, e2.tr z3, z4, z5⟩
        rw [← z1]
        obtain ⟨g0', -, -, -, l1', -, -⟩ := pn_step hp1 h16 hi1
        have n0 : ¬ nI (e.2.2 i).1 = 0 := nI_ne0 (by omega) (by omega)
        have r10' : qR σ1 11 10 (some 0) = some (some 19) := by simp only [qR, PK k2, bnd]
        rw [fc11_perform_24, g3, bnd, if_neg (nI_ge (by omega) (by omega)), r10, bnd, ist, bnd, if_neg c10]
        simp only [r14, bnd, r10, d41, k1, g0', l1', n0, if_true, if_false, ↓reduceIte, and_true, true_and, and_false, false_and, not_true_eq_false, not_false_eq_true, and_self, r10', t1, fc11_perform_89, nI_1]
    · have hb' : spB (sQ S) (sR S) (e.2.2 i) = false := by simpa using hb
      rw [hb', bI_f] at ist
      rw [if_neg hb]
      refine ⟨σ, ?_, h, Fr.rf _ _, hr, hw⟩
      rw [fc11_perform_24, g3, bnd, if_neg (nI_ge (by omega) (by omega)), r10, bnd, ist, bnd, if_pos rfl]
theorem perform_c {S : Sy} (h : Sh σ) (hr : RC σ S) (hw : WS S) (h0 : pn (sQ S) ≠ 0) (hN : 300 ≤ N) {k : Nat} {e : PnE} (he : (sP S)[k]? = some e) : ∃ σ' : Me, fc11_perform N 0 (nI k) σ = some (nI (pfN e.2.2 e.2.1 0 S).1, σ') ∧ Sh σ' ∧ Fr (hX (sB S)) σ σ' ∧ RC σ' (pfN e.2.2 e.2.1 0 S).2 ∧ WS (pfN e.2.2 e.2.1 0 S).2 := by
  have hok := hw.2.2.2.2.2.1 k e he
  have h16 := hok.2.1
  have b6 := hw.n6
  obtain ⟨σ', z1, z2, z3, z4, z5⟩ := perform24_c hN hok e.2.1 0 N S σ (by omega) (by omega) h hr hw h0 he
  refine ⟨σ', ?_, z2, z3, z4, z5⟩
  rw [← z1]
  have n0 : ¬ (some e.1 : Option Nat) = none := by simp
  have d0 : ¬ nI (pn (sQ S)) = 0 := nI_ne0 (by omega) (by omega)
  simp (disch := omega) only [fc11_perform, PK h, bnd, planAt_y h hr.2.2.1 hw.2.2.2.2.1 he, n0, if_true, if_false, ↓reduceIte, and_true, true_and, and_false, false_and, not_true_eq_false, not_false_eq_true, and_self, qR, qI, hr.2.2.2.2.1.1.1, d0]
  rfl
theorem perform_n {S : Sy} (h : Sh σ) (hr : RC σ S) (hw : WS S) {x : Int32} (hx : ¬ ∃ (k : Nat) (e : PnE), (sP S)[k]? = some e ∧ pn (sQ S) ≠ 0 ∧ x = nI k) : fc11_perform N 0 x σ = some (-1, σ) := by
  have b6 := hw.n6
  have h4 := hw.2.2.2.2.1
  have hn := hr.2.2.2.2.1.1.1
  rcases nix x (n := (sP S).length) (by omega) with q | ⟨k, hk, rfl⟩
  · simp (disch := omega) only [fc11_perform, PK h, bnd, planAt_n h hr.2.2.1 h4 q, if_true, if_false, ↓reduceIte, and_true, true_and, and_false, false_and, not_true_eq_false, not_false_eq_true, and_self]
  · have he := List.getElem?_eq_getElem hk
    have n0 : ¬ (some (sP S)[k].1 : Option Nat) = none := by simp
    by_cases h0 : pn (sQ S) = 0
    · rw [h0] at hn
      simp (disch := omega) only [fc11_perform, PK h, bnd, planAt_y h hr.2.2.1 h4 he, n0, if_true, if_false, ↓reduceIte, and_true, true_and, and_false, false_and, not_true_eq_false, not_false_eq_true, and_self, qR, qI, hn, nI_0]
    · exact absurd ⟨k, _, he, h0, rfl⟩ hx
end PS
