/-! texts told to the reference -/
def pqX : Nat → Nat → Bool := fun a j => ftX a j || (a == 60 && (j == 6 || j == 24 || j == 39 || j == 45 || j == 48)) || a == 65 || a == 67 || a == 71
theorem pqX_f : Sf pqX := by
  have h : ∀ q ∈ rfL, pqX q.1.1 q.1.2 = false := by decide +kernel
  exact h
theorem pqX_l {a j : Nat} (h : mlS a j = false) : pqX a j = false := by
  simp only [mlS, pqX, ftX, Bool.or_eq_false_iff, Bool.and_eq_false_iff, decide_eq_false_iff_not, beq_eq_false_iff_ne] at h ⊢
  omega
theorem ftX_l {a j : Nat} (h : mlS a j = false) : ftX a j = false := by
  simp only [mlS, ftX, Bool.or_eq_false_iff, Bool.and_eq_false_iff, decide_eq_false_iff_not, beq_eq_false_iff_ne] at h ⊢
  omega
theorem sfA (n : Nat) (hn : 60 < n) (h : ∀ q ∈ rfL, q.1.1 ≠ n) : Sf (fun a _ => a == n) := fun q hq => beq_eq_false_iff_ne.mpr (h q hq)
section WX
variable {N : Nat} {σ : Me} {S : Sy}
theorem t215_m (h : Sh σ) (hN : 300 ≤ N) : ∃ σ' : Me, fc12_text_215 N N (some 60) (nI 0) σ = fc12_text_240 N N (some 60) (0 : Int32) σ' ∧ Fr (fun a _ => a == 65) σ σ' ∧ ∀ k, k < 3 → mi σ' 65 k = mi σ 66 k := by
  have sf := sfA 65 (by decide) (by decide +kernel)
  refine lp (fun fu k τ => fc12_text_215 N fu (some 60) (nI k) τ) (fun k τ => Fr (fun a _ => a == 65) σ τ ∧ ∀ i, i < k → mi τ 65 i = mi σ 66 i) (fun o => ∃ σ' : Me, o = fc12_text_240 N N (some 60) (0 : Int32) σ' ∧ Fr (fun a _ => a == 65) σ σ' ∧ ∀ k, k < 3 → mi σ' 65 k = mi σ 66 k) 3 ?_ ?_ 3 0 N σ (by omega) (by omega) ⟨Fr.rf _ _, fun i hi => absurd hi (Nat.not_lt_zero _)⟩
  · rintro fu τ ⟨i1, i2⟩
    refine ⟨τ, ?_, i1, i2⟩
    show fc12_text_215 N (fu + 1) (some 60) (nI 3) τ = _
    rw [fc12_text_215, if_pos (show (3 : Int32) ≤ nI 3 from nI_le (Nat.le_refl _) (by decide))]
  · rintro fu k τ hk ⟨i1, i2⟩
    have hτ := i1.sh sf h
    have q18 : qR τ 12 18 (some 60) = some (some 65) := by simp only [qR, PN hτ, bnd]
    have q19 : qR τ 12 19 (some 60) = some (some 66) := by simp only [qR, PN hτ, bnd]
    have ld : ldI τ (some 66) (nI k) = some (mi σ 66 k) := by rw [ldI_lo _ _ _ (by decide), A66 hτ k hk, bnd, nI_clamp (by omega), i1.i rfl]
    have st : stI τ (some 65) (nI k) (mi σ 66 k) = some (setI τ 65 k (mi σ 66 k)) := by unfold stI; rw [A65 hτ k hk, bnd, nI_clamp (by omega)]
    refine .inl ⟨setI τ 65 k (mi σ 66 k), ?_, fr_I rfl i1, fun i hi => ?_⟩
    · show fc12_text_215 N (fu + 1) (some 60) (nI k) τ = _
      rw [fc12_text_215, if_neg (show ¬ (3 : Int32) ≤ nI k from nI_ge hk (by decide)), q18, bnd, q19, bnd, ld, bnd, st, bnd, nI_1]
    · by_cases e : i = k
      · rw [e, mi_eq]
      · rw [mi_ne _ _ (by omega)]; exact i2 i (by omega)
theorem t240_m (h : Sh σ) (hN : 300 ≤ N) : ∃ σ' : Me, fc12_text_240 N N (some 60) (nI 0) σ = fc12_text_266 N N (some 60) (0 : Int32) σ' ∧ Fr (fun a _ => a == 67) σ σ' ∧ ∀ k, k < 30 → mi σ' 67 k = mi σ 68 k := by
  have sf := sfA 67 (by decide) (by decide +kernel)
  refine lp (fun fu k τ => fc12_text_240 N fu (some 60) (nI k) τ) (fun k τ => Fr (fun a _ => a == 67) σ τ ∧ ∀ i, i < k → mi τ 67 i = mi σ 68 i) (fun o => ∃ σ' : Me, o = fc12_text_266 N N (some 60) (0 : Int32) σ' ∧ Fr (fun a _ => a == 67) σ σ' ∧ ∀ k, k < 30 → mi σ' 67 k = mi σ 68 k) 30 ?_ ?_ 30 0 N σ (by omega) (by omega) ⟨Fr.rf _ _, fun i hi => absurd hi (Nat.not_lt_zero _)⟩
  · rintro fu τ ⟨i1, i2⟩
    refine ⟨τ, ?_, i1, i2⟩
    show fc12_text_240 N (fu + 1) (some 60) (nI 30) τ = _
    rw [fc12_text_240, if_pos (show (30 : Int32) ≤ nI 30 from nI_le (Nat.le_refl _) (by decide))]
  · rintro fu k τ hk ⟨i1, i2⟩
    have hτ := i1.sh sf h
    have q18 : qR τ 12 20 (some 60) = some (some 67) := by simp only [qR, PN hτ, bnd]
    have q19 : qR τ 12 21 (some 60) = some (some 68) := by simp only [qR, PN hτ, bnd]
    have ld : ldI τ (some 68) (nI k) = some (mi σ 68 k) := by rw [ldI_lo _ _ _ (by decide), A68 hτ k hk, bnd, nI_clamp (by omega), i1.i rfl]
    have st : stI τ (some 67) (nI k) (mi σ 68 k) = some (setI τ 67 k (mi σ 68 k)) := by unfold stI; rw [A67 hτ k hk, bnd, nI_clamp (by omega)]
    refine .inl ⟨setI τ 67 k (mi σ 68 k), ?_, fr_I rfl i1, fun i hi => ?_⟩
    · show fc12_text_240 N (fu + 1) (some 60) (nI k) τ = _
      rw [fc12_text_240, if_neg (show ¬ (30 : Int32) ≤ nI k from nI_ge hk (by decide)), q18, bnd, q19, bnd, ld, bnd, st, bnd, nI_1]
    · by_cases e : i = k
      · rw [e, mi_eq]
      · rw [mi_ne _ _ (by omega)]; exact i2 i (by omega)
theorem t266_m (h : Sh σ) (hN : 300 ≤ N) : ∃ σ' : Me, fc12_text_266 N N (some 60) (nI 0) σ = fc12_text_288 N N (some 60) (0 : Int32) σ' ∧ Fr (fun a _ => a == 71) σ σ' ∧ ∀ k, k < 207 → mi σ' 71 k = nI 0 := by
  have sf := sfA 71 (by decide) (by decide +kernel)
  refine lp (fun fu k τ => fc12_text_266 N fu (some 60) (nI k) τ) (fun k τ => Fr (fun a _ => a == 71) σ τ ∧ ∀ i, i < k → mi τ 71 i = nI 0) (fun o => ∃ σ' : Me, o = fc12_text_288 N N (some 60) (0 : Int32) σ' ∧ Fr (fun a _ => a == 71) σ σ' ∧ ∀ k, k < 207 → mi σ' 71 k = nI 0) 207 ?_ ?_ 207 0 N σ (by omega) (by omega) ⟨Fr.rf _ _, fun i hi => absurd hi (Nat.not_lt_zero _)⟩
  · rintro fu τ ⟨i1, i2⟩
    refine ⟨τ, ?_, i1, i2⟩
    show fc12_text_266 N (fu + 1) (some 60) (nI 207) τ = _
    rw [fc12_text_266, if_pos (show (207 : Int32) ≤ nI 207 from nI_le (Nat.le_refl _) (by decide))]
  · rintro fu k τ hk ⟨i1, i2⟩
    have hτ := i1.sh sf h
    have q18 : qR τ 12 28 (some 60) = some (some 71) := by simp only [qR, PN hτ, bnd]
    have st : stI τ (some 71) (nI k) (0 : Int32) = some (setI τ 71 k 0) := by unfold stI; rw [A71 hτ k hk, bnd, nI_clamp (by omega)]
    refine .inl ⟨setI τ 71 k 0, ?_, fr_I rfl i1, fun i hi => ?_⟩
    · show fc12_text_266 N (fu + 1) (some 60) (nI k) τ = _
      rw [fc12_text_266, if_neg (show ¬ (207 : Int32) ≤ nI k from nI_ge hk (by decide)), q18, bnd, st, bnd, nI_1]
    · by_cases e : i = k
      · rw [e, mi_eq]; rfl
      · rw [mi_ne _ _ (by omega)]; exact i2 i (by omega)
/-- the reference's call, and the class's cells -/
def OkM (σ : Me) (S' : Sy) (v : Int32) (o : Option (Int32 × Me)) : Prop := ∃ σ' : Me, o = some (v, σ') ∧ Sh σ' ∧ RM σ' S' ∧ Fr mlS σ σ'
theorem mplain_m (h : Sh σ) (hr : RM σ S) (hw : WS S) {D : PD} (hD : DrM σ D) (hB : PDB D) (hN : 300 ≤ N) : ∃ σ' : Me, ((qI (setI σ 60 6 0) 12 25 (some 60)).bind fun v207 => (pI (setI σ 60 6 0) 12 24 (some 60) v207).bind fun σ210 => fc12_text_215 N N (some 60) (0 : Int32) σ210) = some (nI D.2.2.1, σ') ∧ Sh σ' ∧ RM σ' (plS S D) ∧ Fr mlS σ σ' := by
  have h1 : Sh (setI σ 60 6 0) := h
  have h2 : Sh (setI (setI σ 60 6 0) 60 24 (nI D.2.2.1)) := h
  have e25 : mi (setI σ 60 6 0) 60 25 = nI D.2.2.1 := by rw [mi_ne _ _ (by omega)]; exact hD.2.2.1
  have h6 := hB.2.1
  obtain ⟨σ3, a1, a2, a3⟩ := t215_m (N := N) h2 hN
  have h3 := a2.sh (sfA 65 (by decide) (by decide +kernel)) h2
  obtain ⟨σ4, b1, b2, b3⟩ := t240_m (N := N) h3 hN
  have h4 := b2.sh (sfA 67 (by decide) (by decide +kernel)) h3
  obtain ⟨σ5, c1, c2, c3⟩ := t266_m (N := N) h4 hN
  have h5 := c2.sh (sfA 71 (by decide) (by decide +kernel)) h4
  have e24 : mi σ5 60 24 = nI D.2.2.1 := by rw [c2.i rfl, b2.i rfl, a2.i rfl, mi_eq]
  have e65 : ∀ k, k < 3 → mi σ5 65 k = nI (D.2.1 k) := fun k hk => by
    rw [c2.i rfl, b2.i rfl, a3 k hk, mi_ne _ _ (by omega), mi_ne _ _ (by omega)]; exact hD.2.1 k hk
  have e67 : ∀ f, f < D.2.2.1 → ∀ k, k < 5 → mi σ5 67 (5 * f + k) = nI (D.2.2.2 f k) := fun f hf k hk => by
    rw [c2.i rfl, b3 _ (by omega), a2.i rfl, mi_ne _ _ (by omega), mi_ne _ _ (by omega)]; exact hD.2.2.2 f hf k hk
  obtain ⟨σ6, d1, d2, d3, d4, d5, d6, d7⟩ := t288_m (N := N) h5 h6 e24 e65 e67 hN
  have fa : Fr pqX σ σ6 := by
    refine Fr.tr (σ' := setI (setI σ 60 6 0) 60 24 (nI D.2.2.1)) (fr_I rfl (fr_I rfl (Fr.rf _ _))) ?_
    refine Fr.tr (a2.mono (fun a j e => ?_)) (Fr.tr (b2.mono (fun a j e => ?_)) (Fr.tr (c2.mono (fun a j e => ?_)) (d2.mono (fun a j e => ?_))))
    all_goals
      simp only [pqX, Bool.or_eq_false_iff, Bool.and_eq_false_iff, decide_eq_false_iff_not, beq_eq_false_iff_ne] at e ⊢
      omega
  have z71 : ∀ j, 25 ≤ j → j < 207 → mi σ6 71 j = nI 0 := fun j hj1 hj2 => by
    rw [d2.i (by simp; omega)]; exact c3 j hj2
  obtain ⟨r1, r2, r3, r4, r5, r10⟩ := hr
  refine ⟨σ6, ?_, fa.sh pqX_f h, ⟨⟨?_, fun k hk => absurd hk (Nat.not_lt_zero _)⟩, r2.fr fa rfl rfl (fun _ => ⟨rfl, rfl⟩) (r2.2.2.2.fr fa (fun _ => ⟨rfl, rfl⟩)), r3.fr fa hw.2.2.2.2.1 (fun i q e => (hw.2.2.2.2.2.1 i q e).2.1) rfl (fun j hj => by simp [pqX, ftX]; omega) (fun j hj => by simp [pqX, ftX]; omega), ?_, ⟨⟨?_, ?_, ?_, fun f hf => ?_⟩, ⟨d6, z71 25 (by omega) (by omega), fun f hf => ?_⟩, ⟨?_, fun j hj => ?_⟩, ⟨d4, fun i a e => by cases e⟩, d5⟩, d3, fun k q e => by cases e⟩, fa.mono (fun a j e => pqX_l e)⟩
  · have w1 : fc12_text_215 N N (some 60) (0 : Int32) (setI (setI σ 60 6 0) 60 24 (nI D.2.2.1)) = fc12_text_240 N N (some 60) (0 : Int32) σ3 := a1
    have w2 : fc12_text_240 N N (some 60) (0 : Int32) σ3 = fc12_text_266 N N (some 60) (0 : Int32) σ4 := b1
    have w3 : fc12_text_266 N N (some 60) (0 : Int32) σ4 = fc12_text_288 N N (some 60) (0 : Int32) σ5 := c1
    have w4 : fc12_text_288 N N (some 60) (0 : Int32) σ5 = some (nI D.2.2.1, σ6) := d1
    rw [mq h1 e25, bnd, mp h1, bnd, w1, w2, w3, w4]
  · show mi σ6 60 6 = nI 0
    rw [d2.i rfl, c2.i rfl, b2.i rfl, a2.i rfl, mi_ne _ _ (by omega), mi_eq]; rfl
  · show mi σ6 60 31 = nI (sE S)
    rw [fa.i rfl]; exact r4
  · show mi σ6 60 24 = nI D.2.2.1
    rw [d2.i rfl]; exact e24
  · show mi σ6 65 0 = nI (D.2.1 0)
    rw [d2.i rfl]; exact e65 0 (by decide)
  · show mi σ6 65 1 = nI (D.2.1 1)
    rw [d2.i rfl]; exact e65 1 (by decide)
  · show mi σ6 67 (5 * f + 3) = nI (D.2.2.2 f 3)
    rw [d2.i rfl]; exact e67 f hf 3 (by decide)
  · exact d7 f hf
  · exact z71 26 (by omega) (by omega)
  · have : j < min 60 0 := hj
    omega
theorem mlaw_m (h : Sh σ) (hr : RM σ S) (hw : WS S) {la : Nat} {C : List Ci} (h4 : (sL S).length < 4) (hN : 300 ≤ N) : ∃ σ' : Me, fc12_text_71 N N (some 60) (nI (sT S).1) (0 : Int32) (setI σ 60 6 0) = some (nI (sL S).length, σ') ∧ Sh σ' ∧ RM σ' (lwS S la C) ∧ Fr mlS σ σ' := by
  have h1 : Sh (setI σ 60 6 0) := h
  obtain ⟨r1, ⟨l1, l2, l3, l4⟩, r3, r4, r5, r10⟩ := hr
  obtain ⟨σ2, a1, a2, a3, a4, a5⟩ := t71_m (N := N) h1 hw.1 (fun i hi => by rw [mi_ne _ _ (by omega)]; exact r1.2 i hi) h4 (show mi (setI σ 60 6 0) 60 7 = nI (sL S).length by rw [mi_ne _ _ (by omega)]; exact l1) hN
  have fa : Fr (fun a j => (a == 62 && decide (240 * (sL S).length ≤ j)) || (a == 63 && j == (sL S).length) || (a == 60 && (j == 7 || j == 6))) σ σ2 := by
    refine Fr.tr (σ' := setI σ 60 6 0) (fr_I (by simp) (Fr.rf _ _)) (a2.mono (fun a j e => ?_))
    simp only [Bool.or_eq_false_iff, Bool.and_eq_false_iff, decide_eq_false_iff_not, beq_eq_false_iff_ne] at e ⊢
    omega
  have sf : Sf (fun a j => (a == 62 && decide (240 * (sL S).length ≤ j)) || (a == 63 && j == (sL S).length) || (a == 60 && (j == 7 || j == 6))) := by
    have h : ∀ q ∈ rfL, q.1.1 ≠ 62 ∧ q.1.1 ≠ 63 ∧ (q.1.1 = 60 → q.1.2 ≠ 7 ∧ q.1.2 ≠ 6) := by decide +kernel
    intro q hq
    obtain ⟨a1, a2, a3⟩ := h q hq
    simp only [Bool.or_eq_false_iff, Bool.and_eq_false_iff, decide_eq_false_iff_not, beq_eq_false_iff_ne]
    omega
  refine ⟨σ2, a1, fa.sh sf h, ⟨⟨?_, fun k hk => absurd hk (Nat.not_lt_zero _)⟩, ⟨?_, ?_, fun k q e => ?_, fun z hz => ?_⟩, r3.fr fa hw.2.2.2.2.1 (fun i q e => (hw.2.2.2.2.2.1 i q e).2.1) rfl (fun j hj => rfl) (fun j hj => rfl), ?_, r5.fr fa rfl rfl rfl (fun _ => ⟨rfl, rfl, rfl, rfl, rfl⟩), r10.fr fa rfl (fun _ => rfl)⟩, fa.mono (fun a j e => ?_)⟩
  · show mi σ2 60 6 = nI 0
    rw [a2.i rfl, mi_eq]; rfl
  · show mi σ2 60 7 = nI (sL S ++ [_]).length
    rw [a3, List.length_append]; rfl
  · show mi σ2 60 30 = oI (sH S)
    rw [fa.i rfl]; exact l2
  · rcases app_get (show (sL S ++ [(la, sT S, C)])[k]? = some q from e) with ⟨hk, e⟩ | ⟨hk, rfl⟩
    · obtain ⟨b1, b2⟩ := l3 k q e
      have hq := (hw.2.2.1 k q e).1.1
      exact ⟨by rw [fa.i (by simp; omega)]; exact b1, fun i hi => by rw [fa.i (by simp; omega)]; exact b2 i hi⟩
    · rw [hk]
      exact ⟨a4, a5⟩
  · rcases l4 z hz with m0 | ⟨k', q', o, n, w, v, s, t, m1, m2⟩
    · left
      rw [fa.l rfl]; exact m0
    · right
      refine ⟨k', q', o, n, w, v, s, t, ?_, ?_⟩
      · show (sL S ++ [(la, sT S, C)])[k']? = some q'
        have hk : k' < (sL S).length := by
          rcases Nat.lt_or_ge k' (sL S).length with c | c
          · exact c
          · rw [List.getElem?_eq_none c] at m1; cases m1
        rw [app_lt hk]; exact m1
      · rw [fa.l rfl, fa.i rfl]; exact m2
  · show mi σ2 60 31 = nI (sE S)
    rw [fa.i rfl]; exact r4
  · simp only [mlS, Bool.or_eq_false_iff, Bool.and_eq_false_iff, decide_eq_false_iff_not, beq_eq_false_iff_ne] at e ⊢
    omega
theorem mpl_m (h : Sh σ) (hr : RM σ S) (hw : WS S) {pa : Nat} {l : List StpT} (hl : l.length ≤ 16) (e70 : mi σ 70 4 = nI l.length) (hV : StV σ l) (h4 : (sP S).length < 4) (hN : 300 ≤ N) : ∃ σ' : Me, fc12_text_137 N N (some 60) (0 : Int32) (setI σ 60 6 0) = some (nI (sP S).length, σ') ∧ Sh σ' ∧ RM σ' (pnS S pa l) ∧ Fr mlS σ σ' := by
  have h1 : Sh (setI σ 60 6 0) := h
  obtain ⟨r1, r2, ⟨p1, p2⟩, r4, r5, r10⟩ := hr
  obtain ⟨σ2, a1, a2, a3, a4, a5⟩ := t137_m (N := N) h1 h4 (show mi (setI σ 60 6 0) 60 26 = nI (sP S).length by rw [mi_ne _ _ (by omega)]; exact p1) (show mi (setI σ 60 6 0) 70 4 = nI l.length by rw [mi_ne _ _ (by omega)]; exact e70) hN
  have fa : Fr (fun a j => (a == 69 && (decide (48 * (sP S).length ≤ j) && decide (j < 48 * (sP S).length + 48))) || (a == 70 && j == (sP S).length) || (a == 60 && (j == 26 || j == 6))) σ σ2 := by
    refine Fr.tr (σ' := setI σ 60 6 0) (fr_I (by simp) (Fr.rf _ _)) (a2.mono (fun a j e => ?_))
    simp only [Bool.or_eq_false_iff, Bool.and_eq_false_iff, decide_eq_false_iff_not, beq_eq_false_iff_ne] at e ⊢
    omega
  have sf : Sf (fun a j => (a == 69 && (decide (48 * (sP S).length ≤ j) && decide (j < 48 * (sP S).length + 48))) || (a == 70 && j == (sP S).length) || (a == 60 && (j == 26 || j == 6))) := by
    have h : ∀ q ∈ rfL, q.1.1 ≠ 69 ∧ q.1.1 ≠ 70 ∧ (q.1.1 = 60 → q.1.2 ≠ 26 ∧ q.1.2 ≠ 6) := by decide +kernel
    intro q hq
    obtain ⟨a1, a2, a3⟩ := h q hq
    simp only [Bool.or_eq_false_iff, Bool.and_eq_false_iff, decide_eq_false_iff_not, beq_eq_false_iff_ne]
    omega
  refine ⟨σ2, a1, fa.sh sf h, ⟨⟨?_, fun k hk => absurd hk (Nat.not_lt_zero _)⟩, r2.fr fa rfl rfl (fun _ => ⟨rfl, rfl⟩) (r2.2.2.2.fr fa (fun _ => ⟨rfl, rfl⟩)), ⟨?_, fun k q e => ?_⟩, ?_, r5.fr fa rfl rfl rfl (fun _ => ⟨rfl, rfl, rfl, rfl, rfl⟩), r10.fr fa rfl (fun _ => rfl)⟩, fa.mono (fun a j e => ?_)⟩
  · show mi σ2 60 6 = nI 0
    rw [a2.i rfl, mi_eq]; rfl
  · show mi σ2 60 26 = nI (sP S ++ [_]).length
    rw [a3, List.length_append]; rfl
  · rcases app_get (show (sP S ++ [(pa, l.length, fun i => l.getD i (0, 0, 0))])[k]? = some q from e) with ⟨hk, e⟩ | ⟨hk, rfl⟩
    · obtain ⟨b1, b2⟩ := p2 k q e
      have hq := (hw.2.2.2.2.2.1 k q e).2.1
      exact ⟨by rw [fa.i (by simp; omega)]; exact b1, fun i hi => by rw [fa.i (by simp; omega), fa.i (by simp; omega), fa.i (by simp; omega)]; exact b2 i hi⟩
    · rw [hk]
      refine ⟨a4, fun i hi => ?_⟩
      have hi : i < l.length := hi
      have hget : l[i]? = some (l.getD i (0, 0, 0)) := by
        rw [List.getD_eq_getElem?_getD, List.getElem?_eq_getElem hi]; rfl
      obtain ⟨w1, w2, w3⟩ := hV i _ hget
      have g0 := a5 (3 * i) (by omega)
      have g1 := a5 (3 * i + 1) (by omega)
      have g2 := a5 (3 * i + 2) (by omega)
      rw [mi_ne _ _ (by omega)] at g0 g1 g2
      refine ⟨?_, ?_, ?_⟩
      · rw [show 3 * (16 * (sP S).length + i) = 48 * (sP S).length + 3 * i by omega, g0]; exact w1
      · rw [show 3 * (16 * (sP S).length + i) + 1 = 48 * (sP S).length + (3 * i + 1) by omega, g1]; exact w2
      · rw [show 3 * (16 * (sP S).length + i) + 2 = 48 * (sP S).length + (3 * i + 2) by omega, g2]; exact w3
  · show mi σ2 60 31 = nI (sE S)
    rw [fa.i rfl]; exact r4
  · simp only [mlS, Bool.or_eq_false_iff, Bool.and_eq_false_iff, decide_eq_false_iff_not, beq_eq_false_iff_ne] at e ⊢
    omega
end WX
