/-! texts: the reference -/
theorem nar_by : ∀ b, b < 256 → vp_nar .byte (sb b) = sb b := by decide +kernel
def ftX : Nat → Nat → Bool := fun a j => (a == 60 && (j == 0 || j == 5 || (decide (8 ≤ j) && decide (j ≤ 14)) || j == 17 || j == 25 || j == 27)) || a == 66 || a == 68 || (a == 69 && decide (192 ≤ j)) || (a == 70 && j == 4)
theorem ftX_f : Sf ftX := by
  have h : ∀ q ∈ rfL, ftX q.1.1 q.1.2 = false := by decide +kernel
  exact h
theorem ftX_m {a j : Nat} (h : mX a j = false) : ftX a j = false := by
  simp only [mX, ftX, Bool.or_eq_false_iff, Bool.and_eq_false_iff, decide_eq_false_iff_not, beq_eq_false_iff_ne] at h ⊢
  omega
theorem mrX_t {a j : Nat} (h : ftX a j = false) : mrX a j = false := by
  simp only [mrX, ftX, Bool.or_eq_false_iff, Bool.and_eq_false_iff, decide_eq_false_iff_not, beq_eq_false_iff_ne] at h ⊢
  omega
theorem mpX_t {a j : Nat} (h : ftX a j = false) : mpX a j = false := by
  simp only [mpX, ftX, Bool.or_eq_false_iff, Bool.and_eq_false_iff, decide_eq_false_iff_not, beq_eq_false_iff_ne] at h ⊢
  omega
theorem goX_t {a j : Nat} (h : ftX a j = false) : goX a j = false := by
  simp only [goX, ftX, Bool.or_eq_false_iff, Bool.and_eq_false_iff, decide_eq_false_iff_not, beq_eq_false_iff_ne] at h ⊢
  omega
section VX
variable {N : Nat} {σ : Me} {S : Sy}
theorem flt_m (h : Sh σ) (hr : RM σ S) (hw : WS S) (hN : 300 ≤ N) {k : Nat} (hk : k ≤ 2) : ∃ σ' : Me, fc12_fault N 60 (nI k) σ = some (fltA (sT S) k, σ') ∧ Fr ftX σ σ' ∧ (k = 0 → ∀ D, pPlain (sT S) = .inr D → DrM σ' D) ∧ (k = 2 → ∀ l, pPlan (sT S) = .inr l → mi σ' 70 4 = nI l.length ∧ StV σ' l) := by
  have hT := hw.1
  have h0 : Sh (setI σ 60 0 0) := h
  have hr0 := hr.th hw
  have ht := hr0.1
  have f0 : Fr ftX σ (setI σ 60 0 0) := fr_I rfl (Fr.rf _ _)
  have q1 : qR (setI σ 60 0 0) 12 1 (some 60) = some (some 61) := by simp only [qR, PN h0, bnd]
  rw [fc12_fault, th0 h, bnd, in0_2_y (Nat.zero_le _) hk, bnd, if_neg one_z]
  have : k = 0 ∨ k = 1 ∨ k = 2 := by omega
  rcases this with rfl | rfl | rfl
  · have x := readA_m (N := N) h0 hT ht hN
    have ef : fltA (sT S) 0 = (match pPlain (sT S) with
      | .inl f => nI f
      | .inr _ => -1) := rfl
    have fin : ∀ τ : Me, fc12_fault_28 N (some 60) (nI 0) τ = (qI τ 12 11 (some 60)).bind fun v56 => some (v56, τ) := fun τ => by
      rw [fc12_fault_28, if_neg (show ¬ nI 0 = (1 : Int32) by decide), fc12_fault_46, if_neg (show ¬ nI 0 = (2 : Int32) by decide), fc12_fault_55]
    rw [if_pos (show nI 0 = 0 from rfl), d60 h0, bnd, ef]
    generalize pPlain (sT S) = y at x ⊢
    rcases y with f | D
    · obtain ⟨σ1, y1, y2, y3⟩ := x
      have h1 := y2.sh mrX_f h0
      rw [y1, bnd, fin, mq h1 y3, bnd]
      exact ⟨σ1, rfl, f0.tr (y2.mono (fun _ _ e => mrX_t e)), fun _ D e => (by cases e), fun e => (by cases e)⟩
    · obtain ⟨σ1, y1, y2, y3, y4⟩ := x
      have h1 := y2.sh mrX_f h0
      rw [y1, bnd, fin, mq h1 y3, bnd]
      exact ⟨σ1, rfl, f0.tr (y2.mono (fun _ _ e => mrX_t e)), fun _ D' e => (by cases e; exact y4), fun e => (by cases e)⟩
  · have x := go_m (N := N) (B := False) (L := fun _ => 0) (a := 61) (b := 0) hT hN h0 (fun hB => hB.elim) (fun i hi => by rw [Nat.zero_add]; exact ht.2 i hi) (.inl ⟨rfl, rfl⟩)
    have x : ParT False (fun _ => 0) (setI σ 60 0 0) (pLaw (sT S)) (fc12_goThrough N 60 (some 61) (0 : Int32) (nI (sT S).1) (setI σ 60 0 0)) := x
    have ef : fltA (sT S) 1 = (match pLaw (sT S) with
      | .inl f => nI f
      | .inr _ => -1) := rfl
    have fin : ∀ τ : Me, fc12_fault_46 N (some 60) (nI 1) τ = (qI τ 12 11 (some 60)).bind fun v56 => some (v56, τ) := fun τ => by
      rw [fc12_fault_46, if_neg (show ¬ nI 1 = (2 : Int32) by decide), fc12_fault_55]
    rw [if_neg (show ¬ nI 1 = 0 by decide), fc12_fault_28, if_pos (show nI 1 = (1 : Int32) from rfl), q1, bnd, mq h0 ht.1, bnd, d60 h0, bnd, ef]
    generalize pLaw (sT S) = y at x ⊢
    rcases y with f | z
    · obtain ⟨σ1, y1, y2, y3⟩ := x
      have h1 := y2.sh goX_f h0
      rw [y1, bnd, fin, mq h1 y3, bnd]
      exact ⟨σ1, rfl, f0.tr (y2.mono (fun _ _ e => goX_t e)), fun e => (by cases e), fun e => (by cases e)⟩
    · obtain ⟨σ1, y1, y2, y3, y4⟩ := x
      have h1 := y2.sh goX_f h0
      rw [y1, bnd, fin, mq h1 y3, bnd]
      exact ⟨σ1, rfl, f0.tr (y2.mono (fun _ _ e => goX_t e)), fun e => (by cases e), fun e => (by cases e)⟩
  · have x := readP_m (N := N) h0 hT ht hN
    have ef : fltA (sT S) 2 = (match pPlan (sT S) with
      | .inl f => nI f
      | .inr _ => -1) := rfl
    rw [if_neg (show ¬ nI 2 = 0 by decide), fc12_fault_28, if_neg (show ¬ nI 2 = (1 : Int32) by decide), fc12_fault_46, if_pos (show nI 2 = (2 : Int32) from rfl), d60 h0, bnd, ef]
    generalize pPlan (sT S) = y at x ⊢
    rcases y with f | l
    · obtain ⟨σ1, y1, y2, y3⟩ := x
      have h1 := y2.sh mpX_f h0
      rw [y1, bnd, fc12_fault_55, mq h1 y3, bnd]
      exact ⟨σ1, rfl, f0.tr (y2.mono (fun _ _ e => mpX_t e)), fun e => (by cases e), fun _ l' e => (by cases e)⟩
    · obtain ⟨σ1, y1, y2, y3, y4⟩ := x
      have h1 := y2.sh mpX_f h0
      rw [y1, bnd, fc12_fault_55, mq h1 y3, bnd]
      exact ⟨σ1, rfl, f0.tr (y2.mono (fun _ _ e => mpX_t e)), fun e => (by cases e), fun _ l' e => (by cases e; exact y4)⟩
theorem RM.ft {σ' : Me} (h : RM σ S) (k : Fr ftX σ σ') (hw : WS S) : RM σ' S := h.fr (k.mono (fun _ _ e => ftX_m e)) hw (h.2.1.2.2.2.fr k (fun _ => ⟨rfl, rfl⟩))
theorem fault_m (h : Sh σ) (hr : RM σ S) (hw : WS S) (hN : 300 ≤ N) {k : Nat} (hk : k ≤ 2) : Am S σ (fltA (sT S) k) (fc12_fault N 60 (nI k) σ) := by
  obtain ⟨σ', a1, a2, -⟩ := flt_m (N := N) h hr hw hN hk
  exact ⟨σ', a1, a2.mono (fun _ _ e => ftX_m e), hr.2.1.2.2.2.fr a2 (fun _ => ⟨rfl, rfl⟩)⟩
theorem fault_mn (h : Sh σ) {x : Int32} (hx : ¬ ∃ k : Nat, k ≤ 2 ∧ x = nI k) : fc12_fault N 60 x σ = some (-2, setI σ 60 0 0) := by
  rw [fc12_fault, th0 h, bnd, in0_2_n (fun ⟨j, _, h1, h2⟩ => hx ⟨j, h1, h2⟩), bnd, if_pos rfl]
/-! a law's text is kept -/
theorem t71_m (h : Sh σ) {T : Tx} (hT : txOK T) (ht : ∀ i, i < T.1 → mi σ 61 i = sb (T.2 i)) {c : Nat} (hc : c < 4) (e7 : mi σ 60 7 = nI c) (hN : 300 ≤ N) : ∃ σ' : Me, fc12_text_71 N N (some 60) (nI T.1) (nI 0) σ = some (nI c, σ') ∧ Fr (fun a j => (a == 62 && decide (240 * c ≤ j)) || (a == 63 && j == c) || (a == 60 && j == 7)) σ σ' ∧ mi σ' 60 7 = nI (c + 1) ∧ mi σ' 63 c = nI T.1 ∧ ∀ i, i < T.1 → mi σ' 62 (240 * c + i) = sb (T.2 i) := by
  have h240 := hT.1
  have sf : Sf (fun a j => (a == 62 && decide (240 * c ≤ j)) || (a == 63 && j == c) || (a == 60 && j == 7)) := by
    have h : ∀ q ∈ rfL, q.1.1 ≠ 62 ∧ q.1.1 ≠ 63 ∧ (q.1.1 = 60 → q.1.2 ≠ 7) := by decide +kernel
    intro q hq
    obtain ⟨a1, a2, a3⟩ := h q hq
    simp only [Bool.or_eq_false_iff, Bool.and_eq_false_iff, decide_eq_false_iff_not, beq_eq_false_iff_ne]
    omega
  refine lp (fun fu k τ => fc12_text_71 N fu (some 60) (nI T.1) (nI k) τ) (fun k τ => Fr (fun a j => (a == 62 && decide (240 * c ≤ j)) || (a == 63 && j == c) || (a == 60 && j == 7)) σ τ ∧ mi τ 60 7 = nI c ∧ ∀ i, i < k → mi τ 62 (240 * c + i) = sb (T.2 i)) (fun o => ∃ σ' : Me, o = some (nI c, σ') ∧ Fr (fun a j => (a == 62 && decide (240 * c ≤ j)) || (a == 63 && j == c) || (a == 60 && j == 7)) σ σ' ∧ mi σ' 60 7 = nI (c + 1) ∧ mi σ' 63 c = nI T.1 ∧ ∀ i, i < T.1 → mi σ' 62 (240 * c + i) = sb (T.2 i)) T.1 ?_ ?_ T.1 0 N σ (by omega) (by omega) ⟨Fr.rf _ _, e7, fun i hi => absurd hi (Nat.not_lt_zero _)⟩
  · rintro fu τ ⟨i1, i2, i3⟩
    have hτ := i1.sh sf h
    have q3 : qR τ 12 3 (some 60) = some (some 63) := by simp only [qR, PN hτ, bnd]
    have st : stI τ (some 63) (nI c) (nI T.1) = some (setI τ 63 c (nI T.1)) := by
      unfold stI
      rw [A63 hτ c hc, bnd, nI_clamp (by omega)]
    have h1 : Sh (setI τ 63 c (nI T.1)) := hτ
    have e7' : mi (setI τ 63 c (nI T.1)) 60 7 = nI c := by rw [mi_ne _ _ (by omega)]; exact i2
    have h2 : Sh (setI (setI τ 63 c (nI T.1)) 60 7 (nI (c + 1))) := hτ
    have es : nI (c + 1) - (1 : Int32) = nI c := by rw [y1, pk_sub (by omega)]; rfl
    refine ⟨setI (setI τ 63 c (nI T.1)) 60 7 (nI (c + 1)), ?_, fr_I rfl (fr_I (by simp) i1), mi_eq _ _ _ _, by rw [mi_ne _ _ (by omega), mi_eq], fun i hi => by rw [mi_ne _ _ (by omega), mi_ne _ _ (by omega)]; exact i3 i hi⟩
    show fc12_text_71 N (fu + 1) (some 60) (nI T.1) (nI T.1) τ = _
    rw [fc12_text_71, if_pos (nI_le (Nat.le_refl _) (by omega)), q3, bnd, mq hτ i2, bnd, st, bnd, mq h1 e7', bnd, nI_1, mp h1, bnd, mq h2 (mi_eq _ _ _ _), bnd, es]
  · rintro fu k τ hk ⟨i1, i2, i3⟩
    have hτ := i1.sh sf h
    have q2 : qR τ 12 2 (some 60) = some (some 62) := by simp only [qR, PN hτ, bnd]
    have q1 : qR τ 12 1 (some 60) = some (some 61) := by simp only [qR, PN hτ, bnd]
    have ld : ldB τ (some 61) (nI k) = some (sb (T.2 k)) := by
      rw [ldB_lo _ _ _ (by decide), A61 hτ k (by omega), bnd, nI_clamp (by omega), i1.i rfl, ht k hk]
    have ei : (240 : Int32) * nI c + nI k = nI (240 * c + k) := by rw [y240, pk_mul, nI_add]
    have st : stB τ (some 62) (nI (240 * c + k)) (sb (T.2 k)) = some (setI τ 62 (240 * c + k) (sb (T.2 k))) := by
      unfold stB
      rw [A62 hτ _ (by omega), bnd, nI_clamp (by omega), nar_by _ (hT.2 k hk).2]
    refine .inl ⟨setI τ 62 (240 * c + k) (sb (T.2 k)), ?_, fr_I (by simp) i1, by rw [mi_ne _ _ (by omega)]; exact i2, fun i hi => ?_⟩
    · show fc12_text_71 N (fu + 1) (some 60) (nI T.1) (nI k) τ = _
      rw [fc12_text_71, if_neg (nI_ge hk (by omega)), q2, bnd, mq hτ i2, bnd, q1, bnd, ld, bnd, ei, st, bnd, nI_1]
    · by_cases e : i = k
      · rw [e, mi_eq]
      · rw [mi_ne _ _ (by omega)]; exact i3 i (by omega)
/-! a plan's steps are kept -/
theorem t137_m (h : Sh σ) {c n : Nat} (hc : c < 4) (e26 : mi σ 60 26 = nI c) (e70 : mi σ 70 4 = nI n) (hN : 300 ≤ N) : ∃ σ' : Me, fc12_text_137 N N (some 60) (nI 0) σ = some (nI c, σ') ∧ Fr (fun a j => (a == 69 && (decide (48 * c ≤ j) && decide (j < 48 * c + 48))) || (a == 70 && j == c) || (a == 60 && j == 26)) σ σ' ∧ mi σ' 60 26 = nI (c + 1) ∧ mi σ' 70 c = nI n ∧ ∀ i, i < 48 → mi σ' 69 (48 * c + i) = mi σ 69 (192 + i) := by
  have sf : Sf (fun a j => (a == 69 && (decide (48 * c ≤ j) && decide (j < 48 * c + 48))) || (a == 70 && j == c) || (a == 60 && j == 26)) := by
    have h : ∀ q ∈ rfL, q.1.1 ≠ 69 ∧ q.1.1 ≠ 70 ∧ (q.1.1 = 60 → q.1.2 ≠ 26) := by decide +kernel
    intro q hq
    obtain ⟨a1, a2, a3⟩ := h q hq
    simp only [Bool.or_eq_false_iff, Bool.and_eq_false_iff, decide_eq_false_iff_not, beq_eq_false_iff_ne]
    omega
  refine lp (fun fu k τ => fc12_text_137 N fu (some 60) (nI k) τ) (fun k τ => Fr (fun a j => (a == 69 && (decide (48 * c ≤ j) && decide (j < 48 * c + 48))) || (a == 70 && j == c) || (a == 60 && j == 26)) σ τ ∧ mi τ 60 26 = nI c ∧ ∀ i, i < k → mi τ 69 (48 * c + i) = mi σ 69 (192 + i)) (fun o => ∃ σ' : Me, o = some (nI c, σ') ∧ Fr (fun a j => (a == 69 && (decide (48 * c ≤ j) && decide (j < 48 * c + 48))) || (a == 70 && j == c) || (a == 60 && j == 26)) σ σ' ∧ mi σ' 60 26 = nI (c + 1) ∧ mi σ' 70 c = nI n ∧ ∀ i, i < 48 → mi σ' 69 (48 * c + i) = mi σ 69 (192 + i)) 48 ?_ ?_ 48 0 N σ (by omega) (by omega) ⟨Fr.rf _ _, e26, fun i hi => absurd hi (Nat.not_lt_zero _)⟩
  · rintro fu τ ⟨i1, i2, i3⟩
    have hτ := i1.sh sf h
    have e4 : mi τ 70 4 = nI n := by
      rw [i1.i (by simp; omega)]; exact e70
    have ld : ldI τ (some 70) (4 : Int32) = some (nI n) := by
      rw [y4, ldI_lo _ _ _ (by decide), A70 hτ 4 (by decide), bnd, nI_clamp (by decide), e4]
    have st : stI τ (some 70) (nI c) (nI n) = some (setI τ 70 c (nI n)) := by
      unfold stI
      rw [A70 hτ c (by omega), bnd, nI_clamp (by omega)]
    have h1 : Sh (setI τ 70 c (nI n)) := hτ
    have e7' : mi (setI τ 70 c (nI n)) 60 26 = nI c := by rw [mi_ne _ _ (by omega)]; exact i2
    have h2 : Sh (setI (setI τ 70 c (nI n)) 60 26 (nI (c + 1))) := hτ
    have es : nI (c + 1) - (1 : Int32) = nI c := by rw [y1, pk_sub (by omega)]; rfl
    refine ⟨setI (setI τ 70 c (nI n)) 60 26 (nI (c + 1)), ?_, fr_I rfl (fr_I (by simp) i1), mi_eq _ _ _ _, by rw [mi_ne _ _ (by omega), mi_eq], fun i hi => by rw [mi_ne _ _ (by omega), mi_ne _ _ (by omega)]; exact i3 i hi⟩
    show fc12_text_137 N (fu + 1) (some 60) (nI 48) τ = _
    rw [fc12_text_137, y48, if_pos (nI_le (Nat.le_refl _) (by decide)), q23 hτ, bnd, mq hτ i2, bnd, bnd, ld, bnd, st, bnd, mq h1 e7', bnd, nI_1, mp h1, bnd, mq h2 (mi_eq _ _ _ _), bnd, es]
  · rintro fu k τ hk ⟨i1, i2, i3⟩
    have hτ := i1.sh sf h
    have er : (192 : Int32) + nI k = nI (192 + k) := by rw [y192, nI_add]
    have ei : (48 : Int32) * nI c + nI k = nI (48 * c + k) := by rw [y48, pk_mul, nI_add]
    have es : mi τ 69 (192 + k) = mi σ 69 (192 + k) := i1.i (by simp; omega)
    refine .inl ⟨setI τ 69 (48 * c + k) (mi σ 69 (192 + k)), ?_, fr_I (by simp; omega) i1, by rw [mi_ne _ _ (by omega)]; exact i2, fun i hi => ?_⟩
    · show fc12_text_137 N (fu + 1) (some 60) (nI k) τ = _
      rw [fc12_text_137, if_neg (show ¬ (48 : Int32) ≤ nI k from nI_ge hk (by decide)), q22 hτ, bnd, mq hτ i2, bnd, bnd, er, ld_69 hτ (by omega), bnd, es, ei, st_69 hτ (by omega), bnd, nI_1]
    · by_cases e : i = k
      · rw [e, mi_eq]
      · rw [mi_ne _ _ (by omega)]; exact i3 i (by omega)
/-! a plain is laid -/
theorem t288_m (h : Sh σ) {D : PD} (h6 : D.2.2.1 ≤ 6) (e24 : mi σ 60 24 = nI D.2.2.1) (e65 : ∀ k, k < 3 → mi σ 65 k = nI (D.2.1 k)) (e67 : ∀ f, f < D.2.2.1 → ∀ k, k < 5 → mi σ 67 (5 * f + k) = nI (D.2.2.2 f k)) (hN : 300 ≤ N) : ∃ σ' : Me, fc12_text_288 N N (some 60) (nI 0) σ = some (nI D.2.2.1, σ') ∧ Fr (fun a j => (a == 71 && decide (j < 25)) || (a == 60 && (j == 45 || j == 39 || j == 48))) σ σ' ∧ mi σ' 60 45 = nI 0 ∧ mi σ' 60 39 = nI 0 ∧ mi σ' 60 48 = nI 0 ∧ mi σ' 71 24 = nI (D.2.1 2) ∧ ∀ f, f < D.2.2.1 → mi σ' 71 (4 * f) = nI (D.2.2.2 f 0) ∧ mi σ' 71 (4 * f + 1) = nI (D.2.2.2 f 1) ∧ mi σ' 71 (4 * f + 2) = nI (D.2.2.2 f 2) ∧ mi σ' 71 (4 * f + 3) = nI (D.2.2.2 f 4) := by
  have sf : Sf (fun a j => (a == 71 && decide (j < 25)) || (a == 60 && (j == 45 || j == 39 || j == 48))) := by
    have h : ∀ q ∈ rfL, q.1.1 ≠ 71 ∧ (q.1.1 = 60 → q.1.2 ≠ 45 ∧ q.1.2 ≠ 39 ∧ q.1.2 ≠ 48) := by decide +kernel
    intro q hq
    obtain ⟨a1, a2⟩ := h q hq
    simp only [Bool.or_eq_false_iff, Bool.and_eq_false_iff, decide_eq_false_iff_not, beq_eq_false_iff_ne]
    omega
  refine lp (fun fu k τ => fc12_text_288 N fu (some 60) (nI k) τ) (fun k τ => Fr (fun a j => (a == 71 && decide (j < 25)) || (a == 60 && (j == 45 || j == 39 || j == 48))) σ τ ∧ ∀ f, f < k → mi τ 71 (4 * f) = nI (D.2.2.2 f 0) ∧ mi τ 71 (4 * f + 1) = nI (D.2.2.2 f 1) ∧ mi τ 71 (4 * f + 2) = nI (D.2.2.2 f 2) ∧ mi τ 71 (4 * f + 3) = nI (D.2.2.2 f 4)) (fun o => ∃ σ' : Me, o = some (nI D.2.2.1, σ') ∧ Fr (fun a j => (a == 71 && decide (j < 25)) || (a == 60 && (j == 45 || j == 39 || j == 48))) σ σ' ∧ mi σ' 60 45 = nI 0 ∧ mi σ' 60 39 = nI 0 ∧ mi σ' 60 48 = nI 0 ∧ mi σ' 71 24 = nI (D.2.1 2) ∧ ∀ f, f < D.2.2.1 → mi σ' 71 (4 * f) = nI (D.2.2.2 f 0) ∧ mi σ' 71 (4 * f + 1) = nI (D.2.2.2 f 1) ∧ mi σ' 71 (4 * f + 2) = nI (D.2.2.2 f 2) ∧ mi σ' 71 (4 * f + 3) = nI (D.2.2.2 f 4)) D.2.2.1 ?_ ?_ D.2.2.1 0 N σ (by omega) (by omega) ⟨Fr.rf _ _, fun i hi => absurd hi (Nat.not_lt_zero _)⟩
  · rintro fu τ ⟨i1, i2⟩
    have hτ := i1.sh sf h
    have e24' : mi τ 60 24 = nI D.2.2.1 := by rw [i1.i rfl]; exact e24
    have e2 : mi τ 65 2 = nI (D.2.1 2) := by rw [i1.i rfl]; exact e65 2 (by decide)
    refine ⟨setI (setI (setI (setI τ 71 24 (nI (D.2.1 2))) 60 45 0) 60 39 0) 60 48 0, ?_, fr_I rfl (fr_I rfl (fr_I rfl (fr_I rfl i1))), ?_, ?_, mi_eq _ _ _ _, ?_, fun f hf => ?_⟩
    · have ld : ldI τ (some 65) (2 : Int32) = some (nI (D.2.1 2)) := by
        rw [y2, ldI_lo _ _ _ (by decide), A65 hτ 2 (by decide), bnd, nI_clamp (by decide), e2]
      have st : stI τ (some 71) (24 : Int32) (nI (D.2.1 2)) = some (setI τ 71 24 (nI (D.2.1 2))) := by
        unfold stI
        rw [y24, A71 hτ 24 (by decide), bnd, nI_clamp (by decide)]
      have h1 : Sh (setI τ 71 24 (nI (D.2.1 2))) := hτ
      have h2 : Sh (setI (setI τ 71 24 (nI (D.2.1 2))) 60 45 0) := hτ
      have h3 : Sh (setI (setI (setI τ 71 24 (nI (D.2.1 2))) 60 45 0) 60 39 0) := hτ
      have pz : pZ (setI (setI (setI τ 71 24 (nI (D.2.1 2))) 60 45 0) 60 39 0) 12 48 (some 60) (0 : Int32) = some (setI (setI (setI (setI τ 71 24 (nI (D.2.1 2))) 60 45 0) 60 39 0) 60 48 0) := by
        unfold pZ
        rw [if_pos (.inl rfl), d60 h3, bnd]
      have h4 : Sh (setI (setI (setI (setI τ 71 24 (nI (D.2.1 2))) 60 45 0) 60 39 0) 60 48 0) := hτ
      have e5 : mi (setI (setI (setI (setI τ 71 24 (nI (D.2.1 2))) 60 45 0) 60 39 0) 60 48 0) 60 24 = nI D.2.2.1 := by
        simp (disch := omega) only [mi_ne]; exact e24'
      have q28 : qR τ 12 28 (some 60) = some (some 71) := by simp only [qR, PN hτ, bnd]
      have q18 : qR τ 12 18 (some 60) = some (some 65) := by simp only [qR, PN hτ, bnd]
      show fc12_text_288 N (fu + 1) (some 60) (nI D.2.2.1) τ = _
      rw [fc12_text_288, mq hτ e24', bnd, if_pos (nI_le (Nat.le_refl _) (by omega)), q28, bnd, q18, bnd, ld, bnd, st, bnd, mp h1, bnd, mp h2, bnd, pz, bnd, mq h4 e5, bnd]
    · simp (disch := omega) only [mi_ne, mi_eq]; rfl
    · simp (disch := omega) only [mi_ne, mi_eq]; rfl
    · simp (disch := omega) only [mi_ne, mi_eq]
    · simp (disch := omega) only [mi_ne]; exact i2 f hf
  · rintro fu k τ hk ⟨i1, i2⟩
    have hτ := i1.sh sf h
    have e24' : mi τ 60 24 = nI D.2.2.1 := by rw [i1.i rfl]; exact e24
    have r : ∀ m, m < 5 → mi τ 67 (5 * k + m) = nI (D.2.2.2 k m) := fun m hm => by rw [i1.i rfl]; exact e67 k hk m hm
    have r0 : mi τ 67 (5 * k) = nI (D.2.2.2 k 0) := r 0 (by decide)
    have r1 := r 1 (by decide)
    have r2 := r 2 (by decide)
    have r4 := r 4 (by decide)
    have c : ¬ D.2.2.1 ≤ k := by omega
    refine .inl ⟨setI (setI (setI (setI τ 71 (4 * k) (nI (D.2.2.2 k 0))) 71 (4 * k + 1) (nI (D.2.2.2 k 1))) 71 (4 * k + 2) (nI (D.2.2.2 k 2))) 71 (4 * k + 3) (nI (D.2.2.2 k 4)), ?_, fr_I (by simp; omega) (fr_I (by simp; omega) (fr_I (by simp; omega) (fr_I (by simp; omega) i1))), fun f hf => ?_⟩
    · show fc12_text_288 N (fu + 1) (some 60) (nI k) τ = _
      simp (disch := omega) only [fc12_text_288, qI, qR, PN hτ, bnd, e24', nI_leI, c, if_true, if_false, ↓reduceIte, and_true, true_and, and_false, false_and, not_true_eq_false, not_false_eq_true, and_self, ldI_lo, stI, y0, y1, y2, y3, y4, y5, pk_mul, nI_add, Nat.add_zero, A67 hτ, A71 hτ, nI_clamp, dr_setI, mr_setI, arr_setI, mi_ne, r0, r1, r2, r4]
    · by_cases e : f = k
      · subst e
        simp (disch := omega) only [mi_ne, mi_eq]
        exact ⟨trivial, trivial, trivial, trivial⟩
      · simp (disch := omega) only [mi_ne]; exact i2 f (by omega)
end VX
