/-! the class's land: copies, rows, its past -/
theorem Sh.ldk5 {σ : Me} (h : Sh σ) {a : Nat} (ha : a = 5 ∨ a = 19 ∨ a = 25) : Ldk σ a ∧ (∀ i, i < 6 → 0 < i → Kd σ (a + i) (.inr (.int, 6))) := by
  rcases ha with rfl | rfl | rfl
  · refine ⟨⟨h.dr 5 (by decide) rfl, A6 h, A7 h, A8 h, A9 h, A10 h, h.rf 5 0 6 (by decide), h.rf 5 1 7 (by decide), h.rf 5 2 8 (by decide), h.rf 5 3 9 (by decide), h.rf 5 4 10 (by decide)⟩, fun i hi h0 => ?_⟩
    have : i = 1 ∨ i = 2 ∨ i = 3 ∨ i = 4 ∨ i = 5 := by omega
    rcases this with rfl | rfl | rfl | rfl | rfl
    · exact K6 h
    · exact K7 h
    · exact K8 h
    · exact K9 h
    · exact K10 h
  · refine ⟨h.ldk (.inl rfl), fun i hi h0 => ?_⟩
    have : i = 1 ∨ i = 2 ∨ i = 3 ∨ i = 4 ∨ i = 5 := by omega
    rcases this with rfl | rfl | rfl | rfl | rfl
    · exact K20 h
    · exact K21 h
    · exact K22 h
    · exact K23 h
    · exact K24 h
  · refine ⟨h.ldk (.inr rfl), fun i hi h0 => ?_⟩
    have : i = 1 ∨ i = 2 ∨ i = 3 ∨ i = 4 ∨ i = 5 := by omega
    rcases this with rfl | rfl | rfl | rfl | rfl
    · exact K26 h
    · exact K27 h
    · exact K28 h
    · exact K29 h
    · exact K30 h
def ldS (x : Nat) : Nat → Nat → Bool := fun a j => (decide (x < a) && decide (a ≤ x + 5)) || (a == x && decide (5 ≤ j) && decide (j ≤ 9))
theorem copyFrom_c {N : Nat} {σ : Me} (h : Sh σ) {a b : Nat} (hb : b = 5 ∨ b = 19 ∨ b = 25) (ha : a = 5 ∨ a = 19 ∨ a = 25) (hab : a ≠ b) :
    ∃ σ' : Me, fc2_copyFrom N a (some b) σ = some ((), σ') ∧ Fr (ldS a) σ σ' ∧ ∀ (P : Pl) (r : Rw), LdC σ b P r → pn P ≤ 6 → LdC σ' a P r := by
  obtain ⟨⟨a0, a1, a2, a3, a4, a5, am0, am1, am2, am3, am4⟩, ak⟩ := h.ldk5 ha
  obtain ⟨⟨b0, b1, b2, b3, b4, b5, bm0, bm1, bm2, bm3, bm4⟩, bk⟩ := h.ldk5 hb
  have hd : a + 6 ≤ b ∨ b + 6 ≤ a := by omega
  have c1 := fun τ : Me => fun ht : mk τ = mk σ ∧ mz τ = mz σ => cp_ok (σ := τ) (sp := 0) (dp := 0) (n := 6) (show Kd τ (b + 1) _ from by unfold Kd; rw [ht.1, ht.2]; exact bk 1 (by decide) (by decide)) (show Kd τ (a + 1) _ from by unfold Kd; rw [ht.1, ht.2]; exact ak 1 (by decide) (by decide)) (by decide) (by decide) (by decide) (by decide)
  have c2 := fun τ : Me => fun ht : mk τ = mk σ ∧ mz τ = mz σ => cp_ok (σ := τ) (sp := 0) (dp := 0) (n := 6) (show Kd τ (b + 2) _ from by unfold Kd; rw [ht.1, ht.2]; exact bk 2 (by decide) (by decide)) (show Kd τ (a + 2) _ from by unfold Kd; rw [ht.1, ht.2]; exact ak 2 (by decide) (by decide)) (by decide) (by decide) (by decide) (by decide)
  have c3 := fun τ : Me => fun ht : mk τ = mk σ ∧ mz τ = mz σ => cp_ok (σ := τ) (sp := 0) (dp := 0) (n := 6) (show Kd τ (b + 3) _ from by unfold Kd; rw [ht.1, ht.2]; exact bk 3 (by decide) (by decide)) (show Kd τ (a + 3) _ from by unfold Kd; rw [ht.1, ht.2]; exact ak 3 (by decide) (by decide)) (by decide) (by decide) (by decide) (by decide)
  have c4 := fun τ : Me => fun ht : mk τ = mk σ ∧ mz τ = mz σ => cp_ok (σ := τ) (sp := 0) (dp := 0) (n := 6) (show Kd τ (b + 4) _ from by unfold Kd; rw [ht.1, ht.2]; exact bk 4 (by decide) (by decide)) (show Kd τ (a + 4) _ from by unfold Kd; rw [ht.1, ht.2]; exact ak 4 (by decide) (by decide)) (by decide) (by decide) (by decide) (by decide)
  have c5 := fun τ : Me => fun ht : mk τ = mk σ ∧ mz τ = mz σ => cp_ok (σ := τ) (sp := 0) (dp := 0) (n := 6) (show Kd τ (b + 5) _ from by unfold Kd; rw [ht.1, ht.2]; exact bk 5 (by decide) (by decide)) (show Kd τ (a + 5) _ from by unfold Kd; rw [ht.1, ht.2]; exact ak 5 (by decide) (by decide)) (by decide) (by decide) (by decide) (by decide)
  refine ⟨_, (by
    unfold fc2_copyFrom
    simp only [qR, qI, pI, b0, a0, bnd, bm0, am0, bm1, am1, bm2, am2, bm3, am3, bm4, am4, y0, y6, dr_cp, dr_setI, mr_cp]
    rw [c1 σ ⟨rfl, rfl⟩, bnd]
    simp only [dr_cp, dr_setI, mr_cp, b0, a0, bnd, bm1, am1, bm2, am2, bm3, am3, bm4, am4]
    rw [c2 _ (by exact ⟨rfl, rfl⟩), bnd]
    simp only [dr_cp, dr_setI, mr_cp, b0, a0, bnd, bm2, am2, bm3, am3, bm4, am4]
    rw [c3 _ (by exact ⟨rfl, rfl⟩), bnd]
    simp only [dr_cp, dr_setI, mr_cp, b0, a0, bnd, bm3, am3, bm4, am4]
    rw [c4 _ (by exact ⟨rfl, rfl⟩), bnd]
    simp only [dr_cp, dr_setI, mr_cp, b0, a0, bnd, bm4, am4]
    rw [c5 _ (by exact ⟨rfl, rfl⟩), bnd]
    simp only [dr_cp, dr_setI, mr_cp, b0, a0, bnd]
    rfl), ?_, ?_⟩
  · repeat (refine fr_I (by simp [ldS]) ?_)
    repeat (refine fr_cp (fun j _ _ => by simp [ldS]) ?_)
    exact Fr.rf _ _
  · intro P r hL h6
    obtain ⟨l5, l6, l7, l8, l9, lf⟩ := hL
    refine ⟨?_, ?_, ?_, ?_, ?_, fun f hf => ?_⟩
    · simp (disch := omega) only [mi_ne, mi_eq, mi_cpx]; exact l5
    · simp (disch := omega) only [mi_ne, mi_eq, mi_cpx]; exact l6
    · simp (disch := omega) only [mi_ne, mi_eq, mi_cpx]; exact l7
    · simp (disch := omega) only [mi_ne, mi_eq, mi_cpx]; exact l8
    · simp (disch := omega) only [mi_ne, mi_eq, mi_cpx]; exact l9
    · simp (disch := omega) only [mi_ne, mi_eq, mi_cpi, mi_cpx, Nat.zero_add, Nat.sub_zero]
      exact lf f hf
/-- a row of the past -/
def RwR (σ : Me) (R o n : Nat) (r : Rw) : Prop := mi σ R (o + 24) = nI (rp r) ∧ mi σ R (o + 25) = nI (rt r) ∧ ∀ f, f < n → mi σ R (o + f) = nI (ro r f) ∧ mi σ R (o + 6 + f) = nI (rn r f) ∧ mi σ R (o + 12 + f) = nI (rw_ r f) ∧ mi σ R (o + 18 + f) = nI (rc r f)
theorem RwR.fr {S : Nat → Nat → Bool} {σ σ' : Me} {R o n : Nat} {r : Rw} (h : RwR σ R o n r) (k : Fr S σ σ') (hn : n ≤ 6) (h1 : ∀ j, o ≤ j → j < o + 26 → S R j = false) : RwR σ' R o n r :=
  ⟨by rw [k.i (h1 _ (by omega) (by omega))]; exact h.1, by rw [k.i (h1 _ (by omega) (by omega))]; exact h.2.1, fun f hf => by rw [k.i (h1 _ (by omega) (by omega)), k.i (h1 _ (by omega) (by omega)), k.i (h1 _ (by omega) (by omega)), k.i (h1 _ (by omega) (by omega))]; exact h.2.2 f hf⟩
def rwS (R o : Nat) : Nat → Nat → Bool := fun a j => a == R && decide (o ≤ j) && decide (j < o + 26)
theorem writeTo_c {N : Nat} {σ : Me} (h : Sh σ) {R o M : Nat} (hR : R = 42 ∧ M = 1040 ∨ R = 43 ∧ M = 26) (ho : o + 26 ≤ M) :
    ∃ σ' : Me, fc2_writeTo N 19 (some R) (nI o) σ = some ((), σ') ∧ Fr (rwS R o) σ σ' ∧ ∀ (P : Pl) (r : Rw), LdC σ 19 P r → pn P ≤ 6 → RwR σ' R o (pn P) r := by
  have hk : Kd σ R (.inr (.int, M)) := by
    rcases hR with ⟨rfl, rfl⟩ | ⟨rfl, rfl⟩
    · exact K42 h
    · exact K43 h
  have hz : aLn σ .int (some R) = some (nI M) := by
    rcases hR with ⟨rfl, rfl⟩ | ⟨rfl, rfl⟩
    · exact Z42 h
    · exact Z43 h
  have ha : ∀ k, k < M → arr σ .int (some R) (nI k) = some R := by
    rcases hR with ⟨rfl, rfl⟩ | ⟨rfl, rfl⟩
    · exact A42 h
    · exact A43 h
  have hM : M ≤ 1040 := by omega
  have hR2 : 42 ≤ R ∧ R ≤ 43 := by omega
  have c0 : ¬ nI o < 0 := nI_pos (by omega)
  have c1 : nI o ≤ nI M - nI 26 := by rw [pk_sub (by omega)]; exact nI_le (by omega) (by omega)
  have g1 := fun τ : Me => fun ht : mk τ = mk σ ∧ mz τ = mz σ => cp_ok (σ := τ) (sp := 0) (dp := o) (n := 6) (show Kd τ 20 _ from by unfold Kd; rw [ht.1, ht.2]; exact K20 h) (show Kd τ R _ from by unfold Kd; rw [ht.1, ht.2]; exact hk) (by decide) (by omega) (by decide) (by omega)
  have g2 := fun τ : Me => fun ht : mk τ = mk σ ∧ mz τ = mz σ => cp_ok (σ := τ) (sp := 0) (dp := o + 6) (n := 6) (show Kd τ 21 _ from by unfold Kd; rw [ht.1, ht.2]; exact K21 h) (show Kd τ R _ from by unfold Kd; rw [ht.1, ht.2]; exact hk) (by decide) (by omega) (by decide) (by omega)
  have g3 := fun τ : Me => fun ht : mk τ = mk σ ∧ mz τ = mz σ => cp_ok (σ := τ) (sp := 0) (dp := o + 12) (n := 6) (show Kd τ 22 _ from by unfold Kd; rw [ht.1, ht.2]; exact K22 h) (show Kd τ R _ from by unfold Kd; rw [ht.1, ht.2]; exact hk) (by decide) (by omega) (by decide) (by omega)
  have g4 := fun τ : Me => fun ht : mk τ = mk σ ∧ mz τ = mz σ => cp_ok (σ := τ) (sp := 0) (dp := o + 18) (n := 6) (show Kd τ 24 _ from by unfold Kd; rw [ht.1, ht.2]; exact K24 h) (show Kd τ R _ from by unfold Kd; rw [ht.1, ht.2]; exact hk) (by decide) (by omega) (by decide) (by omega)
  refine ⟨_, (by
    unfold fc2_writeTo
    rw [if_neg c0, hz, bnd, y26, if_pos c1]
    simp only [qR, PH h, bnd, y0, y6, y12, y18, y24, y1, nI_add, dr_cp, mr_cp, dr_setI]
    rw [g1 σ ⟨rfl, rfl⟩, bnd]
    simp only [dr_cp, mr_cp, PH h, bnd]
    rw [g2 _ (by exact ⟨rfl, rfl⟩), bnd]
    simp only [dr_cp, mr_cp, PH h, bnd]
    rw [g3 _ (by exact ⟨rfl, rfl⟩), bnd]
    simp only [dr_cp, mr_cp, PH h, bnd]
    rw [g4 _ (by exact ⟨rfl, rfl⟩), bnd]
    simp (disch := omega) only [qI, stI, dr_cp, mr_cp, dr_setI, PH h, bnd, arr_cp, arr_setI, ha, nI_clamp]
    rfl), ?_, ?_⟩
  · refine fr_I (by simp [rwS] <;> omega) (fr_I (by simp [rwS] <;> omega) ?_)
    refine fr_cp (fun j _ _ => by simp [rwS] <;> omega) ?_
    refine fr_cp (fun j _ _ => by simp [rwS] <;> omega) ?_
    refine fr_cp (fun j _ _ => by simp [rwS] <;> omega) ?_
    refine fr_cp (fun j _ _ => by simp [rwS] <;> omega) ?_
    exact Fr.rf _ _
  · intro P r hL h6
    obtain ⟨l5, l6, l7, l8, l9, lf⟩ := hL
    refine ⟨?_, ?_, fun f hf => ?_⟩
    · simp (disch := omega) only [mi_ne, mi_eq, mi_cpx]; exact l8
    · rw [show o + 25 = o + 24 + 1 by omega]
      simp (disch := omega) only [mi_ne, mi_eq, mi_cpx]; exact l9
    · obtain ⟨e1, e2, e3, e4, e5⟩ := lf f hf
      simp (disch := omega) only [mi_ne, mi_eq, mi_cpi, mi_cpx]
      refine ⟨?_, ?_, ?_, ?_⟩
      · rw [show 0 + (o + f - o) = f by omega]; exact e1
      · rw [show 0 + (o + 6 + f - (o + 6)) = f by omega]; exact e2
      · rw [show 0 + (o + 12 + f - (o + 12)) = f by omega]; exact e3
      · rw [show 0 + (o + 18 + f - (o + 18)) = f by omega]; exact e5
def rdS : Nat → Nat → Bool := fun a j => a == 20 || a == 21 || a == 22 || a == 24 || (a == 19 && (j == 8 || j == 9))
theorem readFrom_c {N : Nat} {σ : Me} (h : Sh σ) {R o M : Nat} (hR : R = 42 ∧ M = 1040 ∨ R = 43 ∧ M = 26) (ho : o + 26 ≤ M) :
    ∃ σ' : Me, fc2_readFrom N 19 (some R) (nI o) σ = some ((), σ') ∧ Fr rdS σ σ' ∧ ∀ (P : Pl) (r r' : Rw), LdC σ 19 P r → pn P ≤ 6 → RwR σ R o (pn P) r' → LdC σ' 19 P r' := by
  have hk : Kd σ R (.inr (.int, M)) := by
    rcases hR with ⟨rfl, rfl⟩ | ⟨rfl, rfl⟩
    · exact K42 h
    · exact K43 h
  have hz : aLn σ .int (some R) = some (nI M) := by
    rcases hR with ⟨rfl, rfl⟩ | ⟨rfl, rfl⟩
    · exact Z42 h
    · exact Z43 h
  have ha : ∀ k, k < M → arr σ .int (some R) (nI k) = some R := by
    rcases hR with ⟨rfl, rfl⟩ | ⟨rfl, rfl⟩
    · exact A42 h
    · exact A43 h
  have hM : M ≤ 1040 := by omega
  have hR2 : 42 ≤ R ∧ R ≤ 43 := by omega
  have c0 : ¬ nI o < 0 := nI_pos (by omega)
  have c1 : nI o ≤ nI M - nI 26 := by rw [pk_sub (by omega)]; exact nI_le (by omega) (by omega)
  have g1 := fun τ : Me => fun ht : mk τ = mk σ ∧ mz τ = mz σ => cp_ok (σ := τ) (sp := o) (dp := 0) (n := 6) (show Kd τ R _ from by unfold Kd; rw [ht.1, ht.2]; exact hk) (show Kd τ 20 _ from by unfold Kd; rw [ht.1, ht.2]; exact K20 h) (by omega) (by decide) (by omega) (by decide)
  have g2 := fun τ : Me => fun ht : mk τ = mk σ ∧ mz τ = mz σ => cp_ok (σ := τ) (sp := o + 6) (dp := 0) (n := 6) (show Kd τ R _ from by unfold Kd; rw [ht.1, ht.2]; exact hk) (show Kd τ 21 _ from by unfold Kd; rw [ht.1, ht.2]; exact K21 h) (by omega) (by decide) (by omega) (by decide)
  have g3 := fun τ : Me => fun ht : mk τ = mk σ ∧ mz τ = mz σ => cp_ok (σ := τ) (sp := o + 12) (dp := 0) (n := 6) (show Kd τ R _ from by unfold Kd; rw [ht.1, ht.2]; exact hk) (show Kd τ 22 _ from by unfold Kd; rw [ht.1, ht.2]; exact K22 h) (by omega) (by decide) (by omega) (by decide)
  have g4 := fun τ : Me => fun ht : mk τ = mk σ ∧ mz τ = mz σ => cp_ok (σ := τ) (sp := o + 18) (dp := 0) (n := 6) (show Kd τ R _ from by unfold Kd; rw [ht.1, ht.2]; exact hk) (show Kd τ 24 _ from by unfold Kd; rw [ht.1, ht.2]; exact K24 h) (by omega) (by decide) (by omega) (by decide)
  refine ⟨_, (by
    unfold fc2_readFrom
    rw [if_neg c0, hz, bnd, y26, if_pos c1]
    simp only [qR, PH h, bnd, y0, y6, y12, y18, y24, y1, nI_add, dr_cp, mr_cp, dr_setI]
    rw [g1 σ ⟨rfl, rfl⟩, bnd]
    simp only [dr_cp, mr_cp, PH h, bnd]
    rw [g2 _ (by exact ⟨rfl, rfl⟩), bnd]
    simp only [dr_cp, mr_cp, PH h, bnd]
    rw [g3 _ (by exact ⟨rfl, rfl⟩), bnd]
    simp only [dr_cp, mr_cp, PH h, bnd]
    rw [g4 _ (by exact ⟨rfl, rfl⟩), bnd]
    simp (disch := omega) only [pI, ldI_lo, dr_cp, mr_cp, dr_setI, PH h, bnd, arr_cp, arr_setI, ha, nI_clamp]
    rfl), ?_, ?_⟩
  · refine fr_I rfl (fr_I rfl ?_)
    refine fr_cp (fun j _ _ => rfl) ?_
    refine fr_cp (fun j _ _ => rfl) ?_
    refine fr_cp (fun j _ _ => rfl) ?_
    refine fr_cp (fun j _ _ => rfl) ?_
    exact Fr.rf _ _
  · intro P r r' hL h6 hr
    obtain ⟨l5, l6, l7, l8, l9, lf⟩ := hL
    obtain ⟨r1, r2, r3⟩ := hr
    refine ⟨?_, ?_, ?_, ?_, ?_, fun f hf => ?_⟩
    · simp (disch := omega) only [mi_ne, mi_eq, mi_cpx]; exact l5
    · simp (disch := omega) only [mi_ne, mi_eq, mi_cpx]; exact l6
    · simp (disch := omega) only [mi_ne, mi_eq, mi_cpx]; exact l7
    · simp (disch := omega) only [mi_ne, mi_eq, mi_cpx]; exact r1
    · simp (disch := omega) only [mi_ne, mi_eq, mi_cpx]; exact r2
    · obtain ⟨e1, e2, e3, e4⟩ := r3 f hf
      have e5 := (lf f hf).2.2.2.1
      simp (disch := omega) only [mi_ne, mi_eq, mi_cpi, mi_cpx, Nat.sub_zero]
      exact ⟨e1, e2, e3, e5, e4⟩
