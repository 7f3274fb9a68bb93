/-! the best sale, trades, in the reference -/
/-- how the reference holds the best yet -/
def mv (z : Bz) : Int32 := match z with
  | none => 0
  | some p => nI p.2
def zK (z : Bz) : Prop := ∀ p, z = some p → p.1 ≤ 1000 ∧ p.2 ≤ 2000
theorem zc_ne {p : Nat × Nat} (h : zK (some p)) : ¬ zc (some p) = -1 := by
  have h1 := (h p rfl).1
  show ¬ nI p.1 = -1
  intro e
  have := nI_pos (n := p.1) (by omega)
  rw [e] at this
  exact this (by decide)
section MB2
variable {N : Nat} {σ : Me} {S : Sy}
theorem best39_m {rain w : Nat} (hr : rain ≤ 99) (hw : w ≤ 1) : ∀ (m c fu : Nat) (z : Bz) (τ : Me), c + m = 100 * pn (sQ S) → m < fu → zK z → Qm N τ S →
    ∃ σ' : Me, fc12_best_39 N fu (some 60) (nI rain) (nI w) (zc z) (mv z) (nI c) τ = some (if w = 0 then zc (bsN (sQ S) (sq S) (sR S) rain m c z) else zv (bsN (sQ S) (sq S) (sR S) rain m c z), σ') ∧ Fr mX τ σ' ∧ Qm N σ' S := by
  intro m
  induction m with
  | zero =>
    intro c fu z τ hc hfu hz h
    obtain ⟨fu, rfl⟩ : ∃ g, fu = g + 1 := ⟨fu - 1, by omega⟩
    have b6 := h.2.2.1.n6
    refine ⟨τ, ?_, Fr.rf _ _, h⟩
    have q24 : qI τ 12 24 (some 60) = some (nI (pn (sQ S))) := by simp only [qI, PN h.1, bnd, h.n24]
    have ix : (100 : Int32) * nI (pn (sQ S)) = nI (100 * pn (sQ S)) := by rw [y100, pk_mul]
    rw [fc12_best_39, q24, bnd, ix, if_pos (nI_le (by omega) (by omega)), bsN]
    cases z with
    | none =>
      rw [if_pos (show zc none = -1 from rfl)]
      have e : (if w = 0 then zc none else zv none) = -1 := by
        by_cases w0 : w = 0
        · rw [if_pos w0]; rfl
        · rw [if_neg w0]; rfl
      rw [e]; rfl
    | some p =>
      rw [if_neg (zc_ne hz)]
      by_cases w0 : w = 0
      · subst w0; rw [if_pos (show nI 0 = (0 : Int32) from rfl), if_pos rfl]; rfl
      · rw [if_neg (nI_ne0 (by omega) (by omega)), if_neg w0]; rfl
  | succ m ih =>
    intro c fu z τ hc hfu hz h
    obtain ⟨fu, rfl⟩ : ∃ g, fu = g + 1 := ⟨fu - 1, by omega⟩
    obtain ⟨a1, a2, a3, a4, -⟩ := h.2.2.1.hs.yes h.2.2.2.1
    have b6 := a2.1
    have q24 : qI τ 12 24 (some 60) = some (nI (pn (sQ S))) := by simp only [qI, PN h.1, bnd, h.n24]
    have ix : (100 : Int32) * nI (pn (sQ S)) = nI (100 * pn (sQ S)) := by rw [y100, pk_mul]
    have r28 : qR τ 12 28 (some 60) = some (some 71) := by simp only [qR, PN h.1, bnd]
    have r29 : qR τ 12 29 (some 60) = some (some 72) := by simp only [qR, PN h.1, bnd]
    have d60 : dr τ (some 60) (.inl 12) = some 60 := by simp only [PN h.1]
    have d1 := dv_n (a := c) (d := 100) (by omega) (by decide) (by decide)
    have d2 := dv_n (a := c) (d := 10) (by omega) (by decide) (by decide)
    have d3 := rm_n (a := c / 10) (d := 10) (by omega) (by decide) (by decide)
    have d4 := rm_n (a := c) (d := 10) (by omega) (by decide) (by decide)
    rw [← y100] at d1
    rw [← y10] at d2 d3 d4
    rw [fc12_best_39, q24, bnd, ix, if_neg (nI_ge (by omega) (by omega)), d1, bnd, d2, bnd, d3, bnd, d4, bnd]
    have skip : bsOk (sQ S) (sR S) c = false → bsN (sQ S) (sq S) (sR S) rain (m + 1) c z = bsN (sQ S) (sq S) (sR S) rain m (c + 1) z := fun e => by
      rw [bsN, bsS, e]; rfl
    by_cases c0 : c % 10 = 0
    · rw [c0, if_pos (show nI 0 = (0 : Int32) from rfl), skip (bsOk_m rain c0)]
      obtain ⟨σ', z1, z2, z3⟩ := ih (c + 1) fu z τ (by omega) (by omega) hz h
      refine ⟨σ', ?_, z2, z3⟩
      rw [← z1]; simp only [fc12_best_159, nI_1]
    · rw [if_neg (nI_ne0 (by omega) (by omega)), r28, bnd, d60, bnd]
      by_cases hp : c / 100 < pn (sQ S) ∧ c / 10 % 10 < pn (sQ S) ∧ c / 100 ≠ c / 10 % 10
      · obtain ⟨hi, hj, hij⟩ := hp
        have isl := canSell_y (N := N) h.1 (.inl rfl) h.pl h.rw b6 a3 hi hj hij (m := c % 10) (by omega)
        by_cases hs : saleB (sR S) (c / 100) (c / 10 % 10) (c % 10) = true
        · rw [if_pos hs] at isl
          obtain ⟨σ1, σ2, σ3, k1, k2, k3, k4, k5, k6, k7, k8, k9, k10⟩ := behind_m h hi hj hij (m := c % 10) (by omega) hs hr
          have r29' : qR σ1 12 29 (some 60) = some (some 72) := by simp only [qR, PN k2, bnd]
          have r29'' : qR σ2 12 29 (some 60) = some (some 72) := by simp only [qR, PN k4, bnd]
          have d60'' : dr σ2 (some 60) (.inl 12) = some 60 := by simp only [PN k4]
          have hle := borY_le (q := sq S) a2 (rSell (sR S) (c / 100) (c / 10 % 10) (c % 10)) rain
          have hok : bsOk (sQ S) (sR S) c = true := by
            unfold bsOk
            rw [decide_eq_true c0, decide_eq_true hi, decide_eq_true hj, decide_eq_true hij, hs]; rfl
          have q37 : qI σ3 12 37 (some 60) = some (nI (bsV (sQ S) (sq S) (sR S) rain c)) := by simp only [qI, PN k8.1, bnd, k10.2.1, bsV]
          have hvl : bsV (sQ S) (sq S) (sR S) rain c ≤ 1620 := hle
          have step : bsN (sQ S) (sq S) (sR S) rain (m + 1) c z = bsN (sQ S) (sq S) (sR S) rain m (c + 1) (bsU z c (bsV (sQ S) (sq S) (sR S) rain c)) := by rw [bsN, bsS, if_pos hok]
          rw [step, isl, bnd, if_neg one0]
          simp only [r28, r29, bnd, k1, r29', k3, r29'', d60'', k5]
          generalize bsV (sQ S) (sq S) (sR S) rain c = V at *
          have hnew : zK (some (c, V)) := fun p e => by cases e; exact ⟨by show c ≤ 1000; omega, by show V ≤ 2000; omega⟩
          cases z with
          | none =>
            rw [if_pos (show zc none = -1 from rfl)]
            obtain ⟨σ', z1, z2, z3⟩ := ih (c + 1) fu (some (c, V)) σ3 (by omega) (by omega) hnew k8
            refine ⟨σ', ?_, k7.tr z2, z3⟩
            show _ = some (if w = 0 then zc (bsN _ _ _ rain m (c + 1) (some (c, V))) else zv (bsN _ _ _ rain m (c + 1) (some (c, V))), σ')
            rw [← z1]
            simp only [fc12_best_150, fc12_best_159, q37, bnd, nI_1]
            rfl
          | some p =>
            have hp2 := (hz p rfl).2
            rw [if_neg (zc_ne hz), q37, bnd]
            have emv : mv (some p) = nI p.2 := rfl
            rw [emv]
            have eU : bsU (some p) c V = if V ≤ p.2 then some p else some (c, V) := rfl
            rw [eU]
            by_cases hv : V ≤ p.2
            · rw [if_neg (by rw [nI_ltI (by omega) (by omega)]; omega), if_pos hv]
              obtain ⟨σ', z1, z2, z3⟩ := ih (c + 1) fu (some p) σ3 (by omega) (by omega) hz k8
              refine ⟨σ', ?_, k7.tr z2, z3⟩
              rw [← z1]
              simp only [fc12_best_159, nI_1]
              rfl
            · rw [if_pos (by rw [nI_ltI (by omega) (by omega)]; omega), if_neg hv]
              obtain ⟨σ', z1, z2, z3⟩ := ih (c + 1) fu (some (c, V)) σ3 (by omega) (by omega) hnew k8
              refine ⟨σ', ?_, k7.tr z2, z3⟩
              rw [← z1]
              simp only [fc12_best_150, fc12_best_159, q37, bnd, nI_1]
              rfl
        · rw [if_neg hs] at isl
          have hno : bsOk (sQ S) (sR S) c = false := by
            unfold bsOk
            rw [show saleB (sR S) (c / 100) (c / 10 % 10) (c % 10) = false by simpa using hs, Bool.and_false]
          rw [isl, bnd, if_pos rfl, skip hno]
          obtain ⟨σ', z1, z2, z3⟩ := ih (c + 1) fu z τ (by omega) (by omega) hz h
          refine ⟨σ', ?_, z2, z3⟩
          rw [← z1]; simp only [fc12_best_159, nI_1]
      · have hno : bsOk (sQ S) (sR S) c = false := by
          rw [Bool.eq_false_iff]
          intro e
          unfold bsOk at e
          simp only [Bool.and_eq_true, decide_eq_true_eq] at e
          exact hp ⟨e.1.1.1.2, e.1.1.2, e.1.2⟩
        have isl : fc12_canSell N 60 (some 71) (nI (c / 100)) (nI (c / 10 % 10)) (nI (c % 10)) τ = some (0, τ) := canSell_n h.1 h.pl b6 (by
          rintro ⟨i, j, q1, q2, q3, q4, q5⟩
          have e1 := nI_inj q4 (by omega) (by omega)
          have e2 := nI_inj q5 (by omega) (by omega)
          rw [← e1] at q1 q3
          rw [← e2] at q2 q3
          exact hp ⟨q1, q2, q3⟩)
        rw [isl, bnd, if_pos rfl, skip hno]
        obtain ⟨σ', z1, z2, z3⟩ := ih (c + 1) fu z τ (by omega) (by omega) hz h
        refine ⟨σ', ?_, z2, z3⟩
        rw [← z1]; simp only [fc12_best_159, nI_1]
theorem best_m (h : Qm N σ S) {rain w : Nat} (hr : rain ≤ 99) (hw : w ≤ 1) : Am S σ (if w = 0 then zc (bsN (sQ S) (sq S) (sR S) rain (100 * pn (sQ S)) 0 none) else zv (bsN (sQ S) (sq S) (sR S) rain (100 * pn (sQ S)) 0 none)) (fc12_best N 60 (nI rain) (nI w) σ) := by
  have hq := h.th
  have hN := h.2.2.2.2.2
  have b6 := h.2.2.1.n6
  have h0 := h.2.2.2.1
  obtain ⟨σ', z1, z2, z3⟩ := best39_m (N := N) (S := S) hr hw (100 * pn (sQ S) - 1) 1 N none _ (by omega) (by omega) (fun p e => by cases e) hq
  refine Am.of ?_ z2 z3
  have e : bsN (sQ S) (sq S) (sR S) rain (100 * pn (sQ S)) 0 none = bsN (sQ S) (sq S) (sR S) rain (100 * pn (sQ S) - 1) 1 none := by
    obtain ⟨m, hm⟩ : ∃ m, 100 * pn (sQ S) = m + 1 := ⟨100 * pn (sQ S) - 1, by omega⟩
    rw [hm, Nat.add_sub_cancel, bsN, bsS, bsOk_m rain (c := 0) rfl]
    rfl
  rw [e, ← z1, fc12_best, th0 h.1, bnd]
  simp (disch := omega) only [qI, PN hq.1, bnd, hq.n24, hq.n0, mrain_y hr, in0_1_y (Nat.zero_le w) hw, one0, if_true, if_false, ↓reduceIte, and_true, true_and, and_false, false_and, not_true_eq_false, not_false_eq_true, and_self]
  rfl
theorem best_mn (h : Sh σ) (hr : RM σ S) (hw : WS S) {x y : Int32} (hx : ¬ ∃ j w : Nat, pn (sQ S) ≠ 0 ∧ j ≤ 99 ∧ w ≤ 1 ∧ x = nI j ∧ y = nI w) : fc12_best N 60 x y σ = some (-1, setI σ 60 0 0) := by
  have ht : Sh (setI σ 60 0 0) := h
  have b6 := hw.n6
  rw [fc12_best, th0 h, bnd]
  by_cases hs : ∃ j : Nat, pn (sQ S) ≠ 0 ∧ j ≤ 99 ∧ x = nI j
  · obtain ⟨j, h0, hj, rfl⟩ := hs
    have c0 : ¬ nI (pn (sQ S)) = 0 := nI_ne0 (by omega) (by omega)
    simp (disch := omega) only [qI, PN ht, bnd, (hr.th hw).n24, c0, mrain_y hj, in0_1_n (x := y) (fun ⟨k, _, e1, e2⟩ => hx ⟨j, k, h0, hj, e1, rfl, e2⟩), one0, if_true, if_false, ↓reduceIte, and_true, true_and, and_false, false_and, not_true_eq_false, not_false_eq_true, and_self]
  · rcases sky_mn (N := N) hr hw hs with e | ⟨e1, e2, e3⟩
    · simp (disch := omega) only [qI, PN ht, bnd, e, nI_0, if_true, if_false, ↓reduceIte, and_true, true_and, and_false, false_and, not_true_eq_false, not_false_eq_true, and_self]
    · simp (disch := omega) only [qI, PN ht, bnd, e1, e2, e3, if_true, if_false, ↓reduceIte, and_true, true_and, and_false, false_and, not_true_eq_false, not_false_eq_true, and_self]
/-! trades -/
def CwM (τ : Me) (P : Pl) (r1 : Rw) : Prop := ∀ f, f < pn P → mi τ 78 f = nI (rc r1 f)
theorem trades68_m {rain : Nat} (hr : rain ≤ 99) {x2 : Int32} : ∀ (m c n fu : Nat) (τ : Me), c + m = 10 * pn (sQ S) → n ≤ c → m < fu → Qm N τ S → CwM τ (sQ S) (yrY (sQ S) (sq S) (sR S) rain) →
    ∃ σ' : Me, fc12_trades_68 N fu (some 60) (nI rain) x2 (nI n) (nI c) τ = some (tdN (sQ S) (sq S) (sR S) rain x2 m c n, σ') ∧ Fr mX τ σ' ∧ Qm N σ' S := by
  intro m
  induction m with
  | zero =>
    intro c n fu τ hc hn hfu h hC
    obtain ⟨fu, rfl⟩ : ∃ g, fu = g + 1 := ⟨fu - 1, by omega⟩
    have b6 := h.2.2.1.n6
    refine ⟨τ, ?_, Fr.rf _ _, h⟩
    have q24 : qI τ 12 24 (some 60) = some (nI (pn (sQ S))) := by simp only [qI, PN h.1, bnd, h.n24]
    have ix : (10 : Int32) * nI (pn (sQ S)) = nI (10 * pn (sQ S)) := by rw [y10, pk_mul]
    rw [fc12_trades_68, q24, bnd, ix, if_pos (nI_le (by omega) (by omega)), tdN]
    by_cases e : x2 = -1
    · rw [if_pos e, if_pos e]
    · rw [if_neg e, if_neg e]
  | succ m ih =>
    intro c n fu τ hc hn hfu h hC
    obtain ⟨fu, rfl⟩ : ∃ g, fu = g + 1 := ⟨fu - 1, by omega⟩
    obtain ⟨a1, a2, a3, a4, -⟩ := h.2.2.1.hs.yes h.2.2.2.1
    have b6 := a2.1
    have q24 : qI τ 12 24 (some 60) = some (nI (pn (sQ S))) := by simp only [qI, PN h.1, bnd, h.n24]
    have ix : (10 : Int32) * nI (pn (sQ S)) = nI (10 * pn (sQ S)) := by rw [y10, pk_mul]
    have r28 : qR τ 12 28 (some 60) = some (some 71) := by simp only [qR, PN h.1, bnd]
    have r29 : qR τ 12 29 (some 60) = some (some 72) := by simp only [qR, PN h.1, bnd]
    have d60 : dr τ (some 60) (.inl 12) = some 60 := by simp only [PN h.1]
    have d2 := dv_n (a := c) (d := 10) (by omega) (by decide) (by decide)
    have d4 := rm_n (a := c) (d := 10) (by omega) (by decide) (by decide)
    rw [← y10] at d2 d4
    rw [fc12_trades_68, q24, bnd, ix, if_neg (nI_ge (by omega) (by omega)), d2, bnd, d4, bnd, r28, bnd, d60, bnd]
    have skip : tdW (sQ S) (sq S) (sR S) rain c = false → tdN (sQ S) (sq S) (sR S) rain x2 (m + 1) c n = tdN (sQ S) (sq S) (sR S) rain x2 m (c + 1) n := fun e => by
      rw [tdN, e]; rfl
    by_cases hp : c / 10 < pn (sQ S) ∧ c % 10 < pn (sQ S) ∧ c / 10 ≠ c % 10
    · obtain ⟨hi, hj, hij⟩ := hp
      have isl : fc12_canSell N 60 (some 71) (nI (c / 10)) (nI (c % 10)) (1 : Int32) τ = some (if saleB (sR S) (c / 10) (c % 10) 1 = true then 1 else 0, τ) := canSell_y (N := N) h.1 (.inl rfl) h.pl h.rw b6 a3 hi hj hij (m := 1) (by omega)
      have eW : tdW (sQ S) (sq S) (sR S) rain c = wantB (sQ S) (sq S) (sR S) rain (c / 10) (c % 10) := by
        unfold tdW
        rw [decide_eq_true hi, decide_eq_true hj, decide_eq_true hij]
        rfl
      by_cases hs : saleB (sR S) (c / 10) (c % 10) 1 = true
      · rw [if_pos hs] at isl
        obtain ⟨σ1, σ2, σ3, k1, k2, k3, k4, k5, k6, k7, k8, k9, k10⟩ := behind_m h hi hj hij (m := 1) (by omega) hs hr
        have k3 : fc12_sells N (some 72) (nI (c / 10)) (nI (c % 10)) (1 : Int32) σ1 = some ((), σ2) := k3
        have r29' : qR σ1 12 29 (some 60) = some (some 72) := by simp only [qR, PN k2, bnd]
        have r29'' : qR σ2 12 29 (some 60) = some (some 72) := by simp only [qR, PN k4, bnd]
        have d60'' : dr σ2 (some 60) (.inl 12) = some 60 := by simp only [PN k4]
        have r29''' : qR σ3 12 29 (some 60) = some (some 72) := by simp only [qR, PN k8.1, bnd]
        have r41 : qR σ3 12 41 (some 60) = some (some 78) := by simp only [qR, PN k8.1, bnd]
        have hC3 : CwM σ3 (sQ S) (yrY (sQ S) (sq S) (sR S) rain) := fun f hf => by rw [k6.i rfl]; exact hC f hf
        have eW2 : wantB (sQ S) (sq S) (sR S) rain (c / 10) (c % 10) = (decide (rc (yrY (sQ S) (sq S) (sR S) rain) (c / 10) < rc (yrY (sQ S) (sq S) (rSell (sR S) (c / 10) (c % 10) 1) rain) (c / 10)) && decide (rc (yrY (sQ S) (sq S) (sR S) rain) (c % 10) < rc (yrY (sQ S) (sq S) (rSell (sR S) (c / 10) (c % 10) 1) rain) (c % 10))) := by
          unfold wantB; rw [hs, Bool.true_and]
        have bA : ∀ f, f < pn (sQ S) → rc (yrY (sQ S) (sq S) (sR S) rain) f ≤ 999 := fun f hf => ((RwB.yr a3 (by omega)).2.2 f hf).2.2.2
        have bB : ∀ f, f < pn (sQ S) → rc (yrY (sQ S) (sq S) (rSell (sR S) (c / 10) (c % 10) 1) rain) f ≤ 999 := fun f hf => ((RwB.yr (a3.sell hs) (by show rt (sR S) < 1500; omega)).2.2 f hf).2.2.2
        have e1 := (k9.1.2.2 (c / 10) hi).2.2.2
        have e2 := (k9.1.2.2 (c % 10) hj).2.2.2
        have f1 := hC3 (c / 10) hi
        have f2 := hC3 (c % 10) hj
        have bA1 := bA (c / 10) hi
        have bA2 := bA (c % 10) hj
        have bB1 := bB (c / 10) hi
        have bB2 := bB (c % 10) hj
        have l1 : ldI σ3 (some 72) (nI (4 * (c / 10)) + (3 : Int32)) = some (nI (rc (yrY (sQ S) (sq S) (rSell (sR S) (c / 10) (c % 10) 1) rain) (c / 10))) := by simp (disch := omega) only [ip3, ldI_lo, A72 k8.1, bnd, nI_clamp, e1]
        have l2 : ldI σ3 (some 72) (nI (4 * (c % 10)) + (3 : Int32)) = some (nI (rc (yrY (sQ S) (sq S) (rSell (sR S) (c / 10) (c % 10) 1) rain) (c % 10))) := by simp (disch := omega) only [ip3, ldI_lo, A72 k8.1, bnd, nI_clamp, e2]
        have l3 : ldI σ3 (some 78) (nI (c / 10)) = some (nI (rc (yrY (sQ S) (sq S) (sR S) rain) (c / 10))) := by simp (disch := omega) only [ldI_lo, A78 k8.1, bnd, nI_clamp, f1]
        have l4 : ldI σ3 (some 78) (nI (c % 10)) = some (nI (rc (yrY (sQ S) (sq S) (sR S) rain) (c % 10))) := by simp (disch := omega) only [ldI_lo, A78 k8.1, bnd, nI_clamp, f2]
        have j1 := i4 (i := c / 10) (by omega)
        have j2 := i4 (i := c % 10) (by omega)
        rw [isl, bnd, if_neg one0]
        simp only [r28, r29, bnd, k1, r29', k3, r29'', d60'', k5, r29''', r41, j1, j2, l1, l2, l3, l4]
        rw [eW2] at eW
        generalize rc (yrY (sQ S) (sq S) (rSell (sR S) (c / 10) (c % 10) 1) rain) (c / 10) = B1 at *
        generalize rc (yrY (sQ S) (sq S) (rSell (sR S) (c / 10) (c % 10) 1) rain) (c % 10) = B2 at *
        generalize rc (yrY (sQ S) (sq S) (sR S) rain) (c / 10) = A1 at *
        generalize rc (yrY (sQ S) (sq S) (sR S) rain) (c % 10) = A2 at *
        have no : tdW (sQ S) (sq S) (sR S) rain c = false → ∃ σ' : Me, fc12_trades_201 N (fc12_trades_68 N fu) (some 60) (nI rain) x2 (nI n) (nI c) σ3 = some (tdN (sQ S) (sq S) (sR S) rain x2 (m + 1) c n, σ') ∧ Fr mX τ σ' ∧ Qm N σ' S := fun e => by
          obtain ⟨σ', z1, z2, z3⟩ := ih (c + 1) n fu σ3 (by omega) (by omega) (by omega) k8 hC3
          refine ⟨σ', ?_, k7.tr z2, z3⟩
          rw [skip e, ← z1]; simp only [fc12_trades_201, nI_1]
        by_cases q1 : A1 < B1
        · rw [if_neg (nI_ge q1 (by omega))]
          by_cases q2 : A2 < B2
          · rw [if_pos (by rw [nI_ltI (by omega) (by omega)]; exact q2)]
            rw [decide_eq_true q1, decide_eq_true q2, Bool.and_true] at eW
            rw [tdN, if_pos eW]
            by_cases e : nI n = x2
            · rw [if_pos e, if_pos e]
              exact ⟨σ3, rfl, k7, k8⟩
            · rw [if_neg e, if_neg e]
              obtain ⟨σ', z1, z2, z3⟩ := ih (c + 1) (n + 1) fu σ3 (by omega) (by omega) (by omega) k8 hC3
              refine ⟨σ', ?_, k7.tr z2, z3⟩
              rw [← z1]; simp only [fc12_trades_201, nI_1]
          · rw [if_neg (by rw [nI_ltI (by omega) (by omega)]; exact q2)]
            rw [decide_eq_false q2, Bool.and_false] at eW
            exact no eW
        · rw [if_pos (nI_le (by omega) (by omega))]
          rw [decide_eq_false q1, Bool.false_and] at eW
          exact no eW
      · rw [if_neg hs] at isl
        have hno : tdW (sQ S) (sq S) (sR S) rain c = false := by
          rw [eW]; unfold wantB
          rw [show saleB (sR S) (c / 10) (c % 10) 1 = false by simpa using hs, Bool.false_and]
        rw [isl, bnd, if_pos rfl, skip hno]
        obtain ⟨σ', z1, z2, z3⟩ := ih (c + 1) n fu τ (by omega) (by omega) (by omega) h hC
        refine ⟨σ', ?_, z2, z3⟩
        rw [← z1]; simp only [fc12_trades_201, nI_1]
    · have hno : tdW (sQ S) (sq S) (sR S) rain c = false := by
        rw [Bool.eq_false_iff]
        intro e
        unfold tdW at e
        simp only [Bool.and_eq_true, decide_eq_true_eq] at e
        exact hp ⟨e.1.1.1, e.1.1.2, e.1.2⟩
      have isl : fc12_canSell N 60 (some 71) (nI (c / 10)) (nI (c % 10)) (1 : Int32) τ = some (0, τ) := canSell_n h.1 h.pl b6 (by
        rintro ⟨i, j, q1, q2, q3, q4, q5⟩
        have e1 := nI_inj q4 (by omega) (by omega)
        have e2 := nI_inj q5 (by omega) (by omega)
        rw [← e1] at q1 q3
        rw [← e2] at q2 q3
        exact hp ⟨q1, q2, q3⟩)
      rw [isl, bnd, if_pos rfl, skip hno]
      obtain ⟨σ', z1, z2, z3⟩ := ih (c + 1) n fu τ (by omega) (by omega) (by omega) h hC
      refine ⟨σ', ?_, z2, z3⟩
      rw [← z1]; simp only [fc12_trades_201, nI_1]
theorem trades33_m {rain : Nat} {x1 x2 : Int32} {r1 : Rw} : ∀ (m f fu : Nat) (τ : Me), f + m = pn (sQ S) → m < fu → Qm N τ S → TrM τ (sQ S) r1 → (∀ k, k < f → mi τ 78 k = nI (rc r1 k)) →
    ∃ σ' : Me, fc12_trades_33 N fu (some 60) x1 x2 (nI f) τ = fc12_trades_68 N N (some 60) x1 x2 (nI 0) (nI 0) σ' ∧ Fr mX τ σ' ∧ Qm N σ' S ∧ CwM σ' (sQ S) r1 := by
  intro m
  induction m with
  | zero =>
    intro f fu τ hf hfu h hT hI
    obtain ⟨fu, rfl⟩ : ∃ g, fu = g + 1 := ⟨fu - 1, by omega⟩
    have b6 := h.2.2.1.n6
    refine ⟨τ, ?_, Fr.rf _ _, h, fun k hk => hI k (by omega)⟩
    have q24 : qI τ 12 24 (some 60) = some (nI (pn (sQ S))) := by simp only [qI, PN h.1, bnd, h.n24]
    rw [fc12_trades_33, q24, bnd, if_pos (nI_le (by omega) (by omega))]
    rfl
  | succ m ih =>
    intro f fu τ hf hfu h hT hI
    obtain ⟨fu, rfl⟩ : ∃ g, fu = g + 1 := ⟨fu - 1, by omega⟩
    have b6 := h.2.2.1.n6
    have e := (hT.1.2.2 f (by omega)).2.2.2
    have f1 : Fr mX τ (setI τ 78 f (nI (rc r1 f))) := fr_I rfl (Fr.rf _ _)
    have f1' : Fr (fun a _ => a == 78) τ (setI τ 78 f (nI (rc r1 f))) := fr_I rfl (Fr.rf _ _)
    have h1 := h.fr f1 (h.memo.fr f1' (fun _ => ⟨rfl, rfl⟩))
    obtain ⟨t1, cc, lg, t2⟩ := hT
    obtain ⟨σ', z1, z2, z3, z4⟩ := ih (f + 1) fu (setI τ 78 f (nI (rc r1 f))) (by omega) (by omega) h1 ⟨t1.fr f1' (fun _ => rfl), cc, lg, t2.fr f1' (fun _ _ => rfl)⟩ (fun k hk => by
      by_cases q : k = f
      · subst q; rw [mi_eq]
      · rw [mi_ne _ _ (by omega)]; exact hI k (by omega))
    refine ⟨σ', ?_, f1.tr z2, z3, z4⟩
    rw [← z1]
    have c : ¬ pn (sQ S) ≤ f := by omega
    simp (disch := omega) only [fc12_trades_33, qI, qR, PN h.1, bnd, h.n24, nI_leI, c, if_true, if_false, ↓reduceIte, and_true, true_and, and_false, false_and, not_true_eq_false, not_false_eq_true, and_self, i4, ip3, ldI_lo, A72 h.1, nI_clamp, e, stI, A78 h.1, nI_1]
theorem trades_m (h : Qm N σ S) {rain : Nat} (hr : rain ≤ 99) {x2 : Int32} (hx : (-1 : Int32) ≤ x2) : Am S σ (tdN (sQ S) (sq S) (sR S) rain x2 (10 * pn (sQ S)) 0 0) (fc12_trades N 60 (nI rain) x2 σ) := by
  have hq := h.th
  have hN := h.2.2.2.2.2
  have b6 := h.2.2.1.n6
  obtain ⟨σ1, t1, t2, t3, t4, t5⟩ := hq.tries hr
  obtain ⟨σ2, u1, u2, u3, u4⟩ := trades33_m (N := N) (rain := rain) (x1 := nI rain) (x2 := x2) (pn (sQ S)) 0 N σ1 (by omega) (by omega) t3 t4 (fun k hk => by omega)
  obtain ⟨σ3, v1, v2, v3⟩ := trades68_m (N := N) hr (x2 := x2) (10 * pn (sQ S)) 0 0 N σ2 (by omega) (by omega) (by omega) u3 u4
  refine Am.of ?_ ((t2.tr u2).tr v2) v3
  rw [← v1, ← u1, fc12_trades, th0 h.1, bnd]
  simp (disch := omega) only [qI, PN hq.1, bnd, hq.n24, hq.n0, mrain_y hr, one0, hx, if_true, if_false, ↓reduceIte, and_true, true_and, and_false, false_and, not_true_eq_false, not_false_eq_true, and_self, t1]
  rfl
theorem trades_mn (h : Sh σ) (hr : RM σ S) (hw : WS S) {x y : Int32} (hx : ¬ ∃ j : Nat, pn (sQ S) ≠ 0 ∧ j ≤ 99 ∧ x = nI j ∧ (-1 : Int32) ≤ y) : fc12_trades N 60 x y σ = some (-1, setI σ 60 0 0) := by
  have ht : Sh (setI σ 60 0 0) := h
  have b6 := hw.n6
  rw [fc12_trades, th0 h, bnd]
  by_cases hs : ∃ j : Nat, pn (sQ S) ≠ 0 ∧ j ≤ 99 ∧ x = nI j
  · obtain ⟨j, h0, hj, rfl⟩ := hs
    have c0 : ¬ nI (pn (sQ S)) = 0 := nI_ne0 (by omega) (by omega)
    have c1 : ¬ (-1 : Int32) ≤ y := fun e => hx ⟨j, h0, hj, rfl, e⟩
    simp (disch := omega) only [qI, PN ht, bnd, (hr.th hw).n24, c0, mrain_y hj, c1, one0, if_true, if_false, ↓reduceIte, and_true, true_and, and_false, false_and, not_true_eq_false, not_false_eq_true, and_self]
  · rcases sky_mn (N := N) hr hw hs with e | ⟨e1, e2, e3⟩
    · simp (disch := omega) only [qI, PN ht, bnd, e, nI_0, if_true, if_false, ↓reduceIte, and_true, true_and, and_false, false_and, not_true_eq_false, not_false_eq_true, and_self]
    · simp (disch := omega) only [qI, PN ht, bnd, e1, e2, e3, if_true, if_false, ↓reduceIte, and_true, true_and, and_false, false_and, not_true_eq_false, not_false_eq_true, and_self]
end MB2
