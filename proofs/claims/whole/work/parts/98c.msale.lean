/-! the least forgiveness, the best sale, trades, in the reference -/
section ME
variable {N : Nat} {σ : Me} {S : Sy}
theorem Qm.pl (h : Qm N σ S) : PlM σ (sQ S) := h.2.1.2.2.2.2.1.1
theorem Qm.rw (h : Qm N σ S) : RwM σ 71 (pn (sQ S)) (sR S) := h.2.1.2.2.2.2.1.2.1
/-- a sale tried, and its year -/
theorem behind_m (h : Qm N σ S) {i j m rain : Nat} (hi : i < pn (sQ S)) (hj : j < pn (sQ S)) (hij : i ≠ j) (hm : m ≤ 20) (hs : saleB (sR S) i j m = true) (hr : rain ≤ 99) :
    ∃ σ1 σ2 σ3 : Me, fc12_copy N (some 71) (some 72) σ = some ((), σ1) ∧ Sh σ1 ∧ fc12_sells N (some 72) (nI i) (nI j) (nI m) σ1 = some ((), σ2) ∧ Sh σ2 ∧ fc12_goYear N 60 (some 72) (nI rain) σ2 = some ((), σ3) ∧ Fr (yS 72) σ σ3 ∧ Fr mX σ σ3 ∧ Qm N σ3 S ∧ TrM σ3 (sQ S) (yrY (sQ S) (sq S) (rSell (sR S) i j m) rain) ∧ YkM σ3 (sQ S) (sq S) (rSell (sR S) i j m) rain := by
  obtain ⟨a1, a2, a3, a4, -⟩ := h.2.2.1.hs.yes h.2.2.2.1
  obtain ⟨σ1, c1, c2, c2', c3, c4⟩ := h.copy
  obtain ⟨σ2, d1, d2, d3⟩ := sells_m (N := N) c3.1 (.inr rfl) c4.1 a2.1 a3 hi hj hij hm hs
  obtain ⟨σ3, g1, g2, g3, g4, g5, g6, g7⟩ := c3.alter c4 d2 d3 (a3.sell hs) hr
  exact ⟨σ1, σ2, σ3, c1, c3.1, d1, g4.1, g1, (c2'.mono (fun a j e => f72_y e)).tr g2, c2.tr g3, g5, g6, g7⟩
/-! the least forgiveness -/
theorem least43_m {rain w n : Nat} (hr : rain ≤ 99) (hw : w ≤ 1) (hn : n ≤ 999) (K : Option Nat → Int32 → Int32 → Int32 → Me → Option (Int32 × Me)) : ∀ (m f fu : Nat) (τ : Me), f + m = pn (sQ S) → m < fu → Qm N τ S →
    (∃ (σ' : Me) (f' : Nat), fc12_least_43 N K fu (some 60) (nI rain) (nI w) (nI n) (nI f) τ = some (lsA w (some (n, f')), σ') ∧ Fr mX τ σ' ∧ Qm N σ' S ∧ f ≤ f' ∧ f' < pn (sQ S) ∧ n ≤ ro (sR S) f' ∧ lsZ (sQ S) (sq S) (sR S) rain f' n ∧ ∀ k, f ≤ k → k < f' → n ≤ ro (sR S) k → ¬ lsZ (sQ S) (sq S) (sR S) rain k n) ∨
    (∃ σ' : Me, fc12_least_43 N K fu (some 60) (nI rain) (nI w) (nI n) (nI f) τ = K (some 60) (nI rain) (nI w) (nI (n + 1)) σ' ∧ Fr mX τ σ' ∧ Qm N σ' S ∧ ∀ k, f ≤ k → k < pn (sQ S) → n ≤ ro (sR S) k → ¬ lsZ (sQ S) (sq S) (sR S) rain k n) := by
  intro m
  induction m with
  | zero =>
    intro f fu τ hf hfu h
    obtain ⟨fu, rfl⟩ : ∃ g, fu = g + 1 := ⟨fu - 1, by omega⟩
    have b6 := h.2.2.1.n6
    refine .inr ⟨τ, ?_, Fr.rf _ _, h, fun k h1 h2 => by omega⟩
    have c : pn (sQ S) ≤ f := by omega
    simp (disch := omega) only [fc12_least_43, qI, PN h.1, bnd, h.n24, nI_leI, c, if_true, if_false, ↓reduceIte, and_true, true_and, and_false, false_and, not_true_eq_false, not_false_eq_true, and_self, nI_1]
  | succ m ih =>
    intro f fu τ hf hfu h
    obtain ⟨fu, rfl⟩ : ∃ g, fu = g + 1 := ⟨fu - 1, by omega⟩
    obtain ⟨a1, a2, a3, a4, -⟩ := h.2.2.1.hs.yes h.2.2.2.1
    have b6 := a2.1
    have hf1 : f < pn (sQ S) := by omega
    have e0 := (h.rw.2.2 f hf1).1
    have eb := (a3.2.2 f hf1).1
    have c : ¬ pn (sQ S) ≤ f := by omega
    have q24 : qI τ 12 24 (some 60) = some (nI (pn (sQ S))) := by simp only [qI, PN h.1, bnd, h.n24]
    have r28 : qR τ 12 28 (some 60) = some (some 71) := by simp only [qR, PN h.1, bnd]
    have r29 : qR τ 12 29 (some 60) = some (some 72) := by simp only [qR, PN h.1, bnd]
    have i4f := i4 (i := f) (by omega)
    have l71 : ldI τ (some 71) (nI (4 * f)) = some (nI (ro (sR S) f)) := by simp (disch := omega) only [ldI_lo, A71 h.1, bnd, nI_clamp, e0]
    have x0 : fc12_least_43 N K (fu + 1) (some 60) (nI rain) (nI w) (nI n) (nI f) τ = if nI n ≤ nI (ro (sR S) f) then
        (fc12_copy N (some 71) (some 72) τ).bind fun p78 =>
        (qR p78.2 12 29 (some 60)).bind fun v82 =>
        (ldI p78.2 v82 (nI (4 * f))).bind fun v92 =>
        (stI p78.2 v82 (nI (4 * f)) (v92 - nI n)).bind fun σ95 =>
        (qR σ95 12 29 (some 60)).bind fun v98 =>
        (dr σ95 (some 60) (.inl 12)).bind fun a =>
        (fc12_goYear N a v98 (nI rain) σ95).bind fun p102 =>
        (qI p102.2 12 36 (some 60)).bind fun v106 =>
        if v106 = 0 then
          if nI w = 0 then some (nI f, p102.2) else some (nI n, p102.2)
        else
          fc12_least_123 N K (fc12_least_43 N K fu) (some 60) (nI rain) (nI w) (nI n) (nI f) p102.2
      else
        fc12_least_123 N K (fc12_least_43 N K fu) (some 60) (nI rain) (nI w) (nI n) (nI f) τ := by
      rw [fc12_least_43, q24, bnd, if_neg (nI_ge (by omega) (by omega)), r28, bnd, i4f, ip0, l71, bnd]
      simp only [bnd, r29]
    by_cases cn : n ≤ ro (sR S) f
    · rw [x0, if_pos (nI_le cn (by omega))]
      obtain ⟨σ1, c1, c2, c2', c3, c4⟩ := h.copy
      have e1 := (c4.1.2.2 f hf1).1
      have s1 := pk_sub cn
      have hB := a3.owe (f := f) (x := ro (sR S) f - n) (by omega)
      obtain ⟨σ3, g1, g2, g3, g4, g5, g6, g7⟩ := c3.alter c4 (set72_fr (σ := σ1) (f := f) (x := nI (ro (sR S) f - n)) (by omega)) (set72 c4.1 b6 hf1) hB hr
      have r29' : qR σ1 12 29 (some 60) = some (some 72) := by simp only [qR, PN c3.1, bnd]
      have l72 : ldI σ1 (some 72) (nI (4 * f)) = some (nI (ro (sR S) f)) := by simp (disch := omega) only [ldI_lo, A72 c3.1, bnd, nI_clamp, e1]
      have t72 : stI σ1 (some 72) (nI (4 * f)) (nI (ro (sR S) f - n)) = some (setI σ1 72 (4 * f) (nI (ro (sR S) f - n))) := by simp (disch := omega) only [stI, A72 c3.1, bnd, nI_clamp]
      have r29'' : qR (setI σ1 72 (4 * f) (nI (ro (sR S) f - n))) 12 29 (some 60) = some (some 72) := by simp only [qR, PN g4.1, bnd]
      have d60 : dr (setI σ1 72 (4 * f) (nI (ro (sR S) f - n))) (some 60) (.inl 12) = some 60 := by simp only [PN g4.1]
      have q36 : qI σ3 12 36 (some 60) = some (nI (bitsY (sQ S) (sq S) (rOwe (sR S) f (ro (sR S) f - n)) rain)) := by simp only [qI, PN g5.1, bnd, g7.1]
      have hb := bitsY_lt (q := sq S) (r := rOwe (sR S) f (ro (sR S) f - n)) a2 rain
      simp only [c1, bnd, r29', l72, s1, t72, r29'', d60, g1, q36]
      by_cases hz : bitsY (sQ S) (sq S) (rOwe (sR S) f (ro (sR S) f - n)) rain = 0
      · refine .inl ⟨σ3, f, ?_, c2.tr g3, g5, Nat.le_refl _, hf1, cn, hz, fun k h1 h2 => by omega⟩
        rw [hz, if_pos (show nI 0 = (0 : Int32) from rfl)]
        show _ = some (if w = 0 then nI f else nI n, σ3)
        by_cases w0 : w = 0
        · subst w0; rw [if_pos (show nI 0 = (0 : Int32) from rfl), if_pos rfl]
        · rw [if_neg (nI_ne0 (by omega) (by omega)), if_neg w0]
      · rw [if_neg (nI_ne0 (by omega) (by omega))]
        rcases ih (f + 1) fu σ3 (by omega) (by omega) g5 with ⟨σ', f', z1, z2, z3, z4, z5, z6, z7, z8⟩ | ⟨σ', z1, z2, z3, z4⟩
        · refine .inl ⟨σ', f', ?_, (c2.tr g3).tr z2, z3, by omega, z5, z6, z7, fun k h1 h2 h3 => ?_⟩
          · rw [← z1]; simp only [fc12_least_123, nI_1]
          · by_cases e : k = f
            · subst e; exact hz
            · exact z8 k (by omega) h2 h3
        · refine .inr ⟨σ', ?_, (c2.tr g3).tr z2, z3, fun k h1 h2 h3 => ?_⟩
          · rw [← z1]; simp only [fc12_least_123, nI_1]
          · by_cases e : k = f
            · subst e; exact hz
            · exact z4 k (by omega) h2 h3
    · rw [x0, if_neg (nI_ge (by omega) (by omega))]
      rcases ih (f + 1) fu τ (by omega) (by omega) h with ⟨σ', f', z1, z2, z3, z4, z5, z6, z7, z8⟩ | ⟨σ', z1, z2, z3, z4⟩
      · refine .inl ⟨σ', f', ?_, z2, z3, by omega, z5, z6, z7, fun k h1 h2 h3 => ?_⟩
        · rw [← z1]; simp only [fc12_least_123, nI_1]
        · by_cases e : k = f
          · subst e; omega
          · exact z8 k (by omega) h2 h3
      · refine .inr ⟨σ', ?_, z2, z3, fun k h1 h2 h3 => ?_⟩
        · rw [← z1]; simp only [fc12_least_123, nI_1]
        · by_cases e : k = f
          · subst e; omega
          · exact z4 k (by omega) h2 h3
theorem least33_m {rain w : Nat} (hr : rain ≤ 99) (hw : w ≤ 1) : ∀ (m n fu : Nat) (τ : Me), n + m = 1000 → m < fu → Qm N τ S → (∀ n' f, n' < n → f < pn (sQ S) → n' ≤ ro (sR S) f → ¬ lsZ (sQ S) (sq S) (sR S) rain f n') →
    ∃ (σ' : Me) (o : Option (Nat × Nat)), fc12_least_33 N fu (some 60) (nI rain) (nI w) (nI n) τ = some (lsA w o, σ') ∧ Fr mX τ σ' ∧ Qm N σ' S ∧ LsR (sQ S) (sq S) (sR S) rain o := by
  intro m
  induction m with
  | zero =>
    intro n fu τ hn hfu h hI
    obtain ⟨fu, rfl⟩ : ∃ g, fu = g + 1 := ⟨fu - 1, by omega⟩
    obtain ⟨a1, a2, a3, a4, -⟩ := h.2.2.1.hs.yes h.2.2.2.1
    refine ⟨τ, none, ?_, Fr.rf _ _, h, fun f k h1 h2 => hI k f (by have := (a3.2.2 f h1).1; omega) h1 h2⟩
    have c : 999 < n := by omega
    simp (disch := omega) only [fc12_least_33, y999, nI_ltI, c, if_true, if_false, ↓reduceIte, and_true, true_and, and_false, false_and, not_true_eq_false, not_false_eq_true, and_self]
    rfl
  | succ m ih =>
    intro n fu τ hn hfu h hI
    obtain ⟨fu, rfl⟩ : ∃ g, fu = g + 1 := ⟨fu - 1, by omega⟩
    have b6 := h.2.2.1.n6
    have hN := h.2.2.2.2.2
    have c : ¬ 999 < n := by omega
    have x0 : fc12_least_33 N (fu + 1) (some 60) (nI rain) (nI w) (nI n) τ = fc12_least_43 N (fc12_least_33 N fu) N (some 60) (nI rain) (nI w) (nI n) (nI 0) τ := by
      rw [fc12_least_33, y999, if_neg (by rw [nI_ltI (by decide) (by omega)]; exact c)]
      rfl
    rw [x0]
    rcases least43_m hr hw (show n ≤ 999 by omega) (fc12_least_33 N fu) (pn (sQ S)) 0 N τ (by omega) (by omega) h with ⟨σ', f', z1, z2, z3, z4, z5, z6, z7, z8⟩ | ⟨σ', z1, z2, z3, z4⟩
    · refine ⟨σ', some (n, f'), z1, z2, z3, z5, z6, z7, fun f k h1 h2 h3 => ?_⟩
      show n < k ∨ (n = k ∧ f' ≤ f)
      rcases Nat.lt_trichotomy n k with e | e | e
      · exact .inl e
      · subst e
        refine .inr ⟨rfl, ?_⟩
        rcases Nat.lt_or_ge f f' with q | q
        · exact absurd h3 (z8 f (Nat.zero_le _) q h2)
        · exact q
      · exact absurd h3 (hI k f e h1 h2)
    · obtain ⟨σ2, o, y1', y2', y3', y4'⟩ := ih (n + 1) fu σ' (by omega) (by omega) z3 (fun n' f h1 h2 h3 => by
        by_cases e : n' = n
        · subst e; exact z4 f (Nat.zero_le _) h2 h3
        · exact hI n' f (by omega) h2 h3)
      exact ⟨σ2, o, by rw [z1, y1'], z2.tr y2', y3', y4'⟩
theorem least_m (h : Qm N σ S) {rain w : Nat} (hr : rain ≤ 99) (hw : w ≤ 1) : ∃ o : Option (Nat × Nat), Am S σ (lsA w o) (fc12_least N 60 (nI rain) (nI w) σ) ∧ LsR (sQ S) (sq S) (sR S) rain o := by
  have hq := h.th
  have hN := h.2.2.2.2.2
  obtain ⟨σ', o, z1, z2, z3, z4⟩ := least33_m (N := N) hr hw 1000 0 N _ (by omega) (by omega) hq (fun n' f h1 => by omega)
  refine ⟨o, Am.of ?_ z2 z3, z4⟩
  rw [← z1, fc12_least, th0 h.1, bnd]
  simp (disch := omega) only [qI, PN hq.1, bnd, hq.n24, hq.n0, mrain_y hr, in0_1_y (Nat.zero_le w) hw, one0, if_true, if_false, ↓reduceIte, and_true, true_and, and_false, false_and, not_true_eq_false, not_false_eq_true, and_self]
  rfl
theorem least_mn (h : Sh σ) (hr : RM σ S) (hw : WS S) {x y : Int32} (hx : ¬ ∃ j w : Nat, pn (sQ S) ≠ 0 ∧ j ≤ 99 ∧ w ≤ 1 ∧ x = nI j ∧ y = nI w) : fc12_least N 60 x y σ = some (-1, setI σ 60 0 0) := by
  have ht : Sh (setI σ 60 0 0) := h
  have b6 := hw.n6
  rw [fc12_least, th0 h, bnd]
  by_cases hs : ∃ j : Nat, pn (sQ S) ≠ 0 ∧ j ≤ 99 ∧ x = nI j
  · obtain ⟨j, h0, hj, rfl⟩ := hs
    have c0 : ¬ nI (pn (sQ S)) = 0 := nI_ne0 (by omega) (by omega)
    simp (disch := omega) only [qI, PN ht, bnd, (hr.th hw).n24, c0, mrain_y hj, in0_1_n (x := y) (fun ⟨k, _, e1, e2⟩ => hx ⟨j, k, h0, hj, e1, rfl, e2⟩), one0, if_true, if_false, ↓reduceIte, and_true, true_and, and_false, false_and, not_true_eq_false, not_false_eq_true, and_self]
  · rcases sky_mn (N := N) hr hw hs with e | ⟨e1, e2, e3⟩
    · simp (disch := omega) only [qI, PN ht, bnd, e, nI_0, if_true, if_false, ↓reduceIte, and_true, true_and, and_false, false_and, not_true_eq_false, not_false_eq_true, and_self]
    · simp (disch := omega) only [qI, PN ht, bnd, e1, e2, e3, if_true, if_false, ↓reduceIte, and_true, true_and, and_false, false_and, not_true_eq_false, not_false_eq_true, and_self]
end ME
