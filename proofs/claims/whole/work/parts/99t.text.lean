/-! texts: the class -/
def fltA (T : Tx) (k : Nat) : Int32 := if k = 0 then (match pPlain T with
    | .inl f => nI f
    | .inr _ => -1) else if k = 1 then (match pLaw T with
    | .inl f => nI f
    | .inr _ => -1) else (match pPlan T with
    | .inl f => nI f
    | .inr _ => -1)
theorem lrX_c {a j : Nat} (h : cX 0 a j = false) : lrX a j = false := by
  simp only [cX, lrX, Bool.or_eq_false_iff, Bool.and_eq_false_iff, decide_eq_false_iff_not, beq_eq_false_iff_ne] at h ⊢
  omega
theorem plX_c {a j : Nat} (h : cX 0 a j = false) : plX a j = false := by
  simp only [cX, plX, Bool.or_eq_false_iff, Bool.and_eq_false_iff, decide_eq_false_iff_not, beq_eq_false_iff_ne] at h ⊢
  omega
theorem ptX_c {a j : Nat} (h : cX 0 a j = false) : ptX a j = false := by
  simp only [cX, ptX, Bool.or_eq_false_iff, Bool.and_eq_false_iff, decide_eq_false_iff_not, beq_eq_false_iff_ne] at h ⊢
  omega
theorem cX0_l {a j : Nat} (h : clS a j = false) : cX 0 a j = false := by
  simp only [cX, clS, Bool.or_eq_false_iff, Bool.and_eq_false_iff, decide_eq_false_iff_not, beq_eq_false_iff_ne] at h ⊢
  omega
/-- the reference's cells stay -/
theorem RM.cl {σ σ' : Me} {S : Sy} (h : RM σ S) (k : Fr clS σ σ') (hw : WS S) : RM σ' S := by
  obtain ⟨h1, h2, h3, h4, h5, h10⟩ := h
  exact ⟨h1.fr k rfl (fun _ => rfl), h2.fr k rfl rfl (fun _ => ⟨rfl, rfl⟩) (h2.2.2.2.fr k (fun _ => ⟨rfl, rfl⟩)), h3.fr k hw.2.2.2.2.1 (fun i q e => (hw.2.2.2.2.2.1 i q e).2.1) rfl (fun j hj => rfl) (fun j hj => rfl), by rw [k.i rfl]; exact h4, h5.fr k rfl rfl rfl (fun _ => ⟨rfl, rfl, rfl, rfl, rfl⟩), h10.fr k rfl (fun _ => rfl)⟩
/-- the class's cells stay -/
theorem RC.ml {σ σ' : Me} {S : Sy} (h : RC σ S) (k : Fr mlS σ σ') (hw : WS S) : RC σ' S := by
  have hi : ∀ a j, 85 ≤ a → a ≠ 0 → mlS a j = false := fun a j h1 _ => by simp [mlS]; omega
  obtain ⟨h1, h2, h3, h4, h5, h9⟩ := h
  exact ⟨h1.fr k rfl (fun _ => rfl), h2.fr k (b := 0) (.inl (by decide)) rfl rfl (fun _ => rfl) rfl hi, h3.fr h2 k (b := 0) (.inl (by decide)) rfl (fun _ => rfl) hi, by rw [k.i rfl]; exact h4, h5.fr k hw.n6 (fun a j h1 h2 => by simp [mlS]; omega) (fun a j h1 h2 => by simp [mlS]; omega), h9.fr k rfl (fun _ => ⟨rfl, rfl, rfl, rfl⟩)⟩
section TX
variable {N : Nat} {σ : Me} {S : Sy}
theorem reads_c (h : Sh σ) (hr : RC σ S) (hw : WS S) (hN : 300 ≤ N) {k : Nat} (hk : k ≤ 2) : ∃ (v : Int32) (σ' : Me), fc11_reads N 0 (nI k) σ = some (v, σ') ∧ Fr (cX 0) σ σ' ∧ ((v = 0 ∧ mi σ' 1 2 = fltA (sT S) k ∧ ∃ f, f ≤ 240 ∧ fltA (sT S) k = nI f) ∨ (v = 1 ∧ fltA (sT S) k = -1 ∧ (k = 0 → ∃ D, pPlain (sT S) = .inr D ∧ DrC σ' D) ∧ (k = 1 → ∃ z, pLaw (sT S) = .inr z ∧ CdW σ' z.2) ∧ (k = 2 → ∃ l, pPlan (sT S) = .inr l ∧ mi σ' 13 4 = nI l.length ∧ StW σ' l))) := by
  have hT := hw.1
  have h240 := hT.1
  have ht := hr.1
  have : k = 0 ∨ k = 1 ∨ k = 2 := by omega
  rcases this with rfl | rfl | rfl
  · have q : qR σ 11 1 (some 0) = some (some 3) := by simp only [qR, PK h, bnd]
    have x := readA_c (N := N) h hT ht hN
    have hg := pPlain_gd (sT S)
    rw [fc11_reads, if_pos (show nI 0 = 0 from rfl), q, bnd, d3 h, bnd]
    have ef : fltA (sT S) 0 = (match pPlain (sT S) with
      | .inl f => nI f
      | .inr _ => -1) := rfl
    rw [ef]
    generalize pPlain (sT S) = y at x hg ⊢
    rcases y with f | D
    · obtain ⟨σ1, y1, y2, y3⟩ := x
      have hf : f ≤ (sT S).1 := hg
      rw [y1, bnd, retZ0]
      exact ⟨0, σ1, rfl, y2.mono (fun _ _ e => ptX_c e), .inl ⟨rfl, y3, f, by omega, rfl⟩⟩
    · obtain ⟨σ1, y1, y2, y3⟩ := x
      rw [y1, bnd, retZ1]
      exact ⟨1, σ1, rfl, y2.mono (fun _ _ e => ptX_c e), .inr ⟨rfl, rfl, fun _ => ⟨D, rfl, y3⟩, fun e => (by cases e), fun e => (by cases e)⟩⟩
  · have q : qR σ 11 2 (some 0) = some (some 11) := by simp only [qR, PK h, bnd]
    have x := readL_c (N := N) h hT ht hN
    have hg := pLaw_gd (sT S)
    rw [fc11_reads, if_neg (show ¬ nI 1 = 0 by decide), if_pos (show nI 1 = (1 : Int32) from rfl), q, bnd, ld11 h, bnd]
    have ef : fltA (sT S) 1 = (match pLaw (sT S) with
      | .inl f => nI f
      | .inr _ => -1) := rfl
    rw [ef]
    generalize pLaw (sT S) = y at x hg ⊢
    rcases y with f | z
    · obtain ⟨σ1, y1, y2, y3⟩ := x
      have hf : f ≤ (sT S).1 := hg
      rw [y1, bnd, retZ0]
      exact ⟨0, σ1, rfl, y2.mono (fun _ _ e => lrX_c e), .inl ⟨rfl, y3, f, by omega, rfl⟩⟩
    · obtain ⟨σ1, y1, y2, y3, y4⟩ := x
      rw [y1, bnd, retZ1]
      exact ⟨1, σ1, rfl, y2.mono (fun _ _ e => lrX_c e), .inr ⟨rfl, rfl, fun e => (by cases e), fun _ => ⟨z, rfl, y4⟩, fun e => (by cases e)⟩⟩
  · have q : qR σ 11 3 (some 0) = some (some 13) := by simp only [qR, PK h, bnd]
    have x := readP_c (N := N) h hT ht hN
    have hg := pPlan_gd (sT S)
    rw [fc11_reads, if_neg (show ¬ nI 2 = 0 by decide), if_neg (show ¬ nI 2 = (1 : Int32) by decide), q, bnd, d13 h, bnd]
    have ef : fltA (sT S) 2 = (match pPlan (sT S) with
      | .inl f => nI f
      | .inr _ => -1) := rfl
    rw [ef]
    generalize pPlan (sT S) = y at x hg ⊢
    rcases y with f | l
    · obtain ⟨σ1, y1, y2, y3⟩ := x
      have hf : f ≤ (sT S).1 := hg
      rw [y1, bnd, retZ0]
      exact ⟨0, σ1, rfl, y2.mono (fun _ _ e => plX_c e), .inl ⟨rfl, y3, f, by omega, rfl⟩⟩
    · obtain ⟨σ1, y1, y2, y3, y4⟩ := x
      rw [y1, bnd, retZ1]
      exact ⟨1, σ1, rfl, y2.mono (fun _ _ e => plX_c e), .inr ⟨rfl, rfl, fun e => (by cases e), fun e => (by cases e), fun _ => ⟨l, rfl, y3, y4⟩⟩⟩
theorem fault_c (h : Sh σ) (hr : RC σ S) (hw : WS S) (hN : 300 ≤ N) {k : Nat} (hk : k ≤ 2) : ∃ σ' : Me, fc11_fault N 0 (nI k) σ = some (fltA (sT S) k, σ') ∧ Fr (cX 0) σ σ' := by
  obtain ⟨v, σ1, r1, r2, r3⟩ := reads_c (N := N) h hr hw hN hk
  have h1 := r2.sh (cX_f 0) h
  rw [fc11_fault, if_neg (nI_pos (by omega)), if_pos (show nI k ≤ (2 : Int32) from nI_le hk (by decide)), (PK h).1, bnd, r1, bnd]
  rcases r3 with ⟨rfl, e, f, hf, ef⟩ | ⟨rfl, e, -⟩
  · have q : qR σ1 11 0 (some 0) = some (some 1) := by simp only [qR, PK h1, bnd]
    rw [if_pos rfl, q, bnd, tq2 (p := f) h1 (e.trans ef), bnd, ef]
    exact ⟨σ1, rfl, r2⟩
  · rw [if_neg one_z, e]
    exact ⟨σ1, rfl, r2⟩
theorem sort_n {x : Int32} (hx : ¬ ∃ k : Nat, k ≤ 2 ∧ x = nI k) : x < 0 ∨ (¬ x < 0 ∧ (2 : Int32) < x ∧ ¬ x ≤ (2 : Int32)) := by
  by_cases c : x < 0
  · exact .inl c
  · obtain ⟨j, hj, rfl⟩ := nI_of c
    have : 2 < j := by
      rcases Nat.lt_or_ge 2 j with q | q
      · exact q
      · exact absurd ⟨j, q, rfl⟩ hx
    exact .inr ⟨c, nI_lt this hj, nI_ge this hj⟩
theorem fault_n {x : Int32} (hx : ¬ ∃ k : Nat, k ≤ 2 ∧ x = nI k) : fc11_fault N 0 x σ = some (-2, σ) := by
  rw [fc11_fault]
  rcases sort_n hx with c | ⟨c1, c2, c3⟩
  · rw [if_pos c]
  · rw [if_neg c1, if_neg c3]
/-! what a text makes -/
def mtT (S : Sy) : Tx := (0, (sT S).2)
def plS (S : Sy) (D : PD) : Sy := (mtT S, sL S, sH S, sP S, sE S, (D.2.2.1, D.2.1 0, D.2.1 1, fun f => D.2.2.2 f 3), (fun f => D.2.2.2 f 0, fun f => D.2.2.2 f 1, fun f => D.2.2.2 f 2, fun f => D.2.2.2 f 4, D.2.1 2, 0), sG S, [], none, [])
def lwS (S : Sy) (la : Nat) (C : List Ci) : Sy := (mtT S, sL S ++ [(la, sT S, C)], sH S, sP S, sE S, sQ S, sR S, sG S, sA S, sI S, sF S)
def pnS (S : Sy) (pa : Nat) (l : List StpT) : Sy := (mtT S, sL S, sH S, sP S ++ [(pa, l.length, fun i => l.getD i (0, 0, 0))], sE S, sQ S, sR S, sG S, sA S, sI S, sF S)
def txS (S : Sy) (la k : Nat) : Option (Int32 × Sy) := if k = 0 then (match pPlain (sT S) with
    | .inl _ => none
    | .inr D => some (nI D.2.2.1, plS S D)) else if k = 1 then (match pLaw (sT S) with
    | .inl _ => none
    | .inr z => if (sL S).length < 4 then some (nI (sL S).length, lwS S la z.2) else none) else (match pPlan (sT S) with
    | .inl _ => none
    | .inr l => if (sP S).length < 4 then some (nI (sP S).length, pnS S la l) else none)
def txA (S : Sy) (la k : Nat) : Int32 × Sy := (txS S la k).getD (-1, S)
theorem mtT_ok (S : Sy) : txOK (mtT S) := ⟨Nat.zero_le _, fun k hk => absurd hk (Nat.not_lt_zero _)⟩
theorem app_get {α : Type} {l : List α} {x y : α} {k : Nat} (e : (l ++ [x])[k]? = some y) : (k < l.length ∧ l[k]? = some y) ∨ (k = l.length ∧ y = x) := by
  by_cases hk : k < l.length
  · rw [List.getElem?_append_left hk] at e
    exact .inl ⟨hk, e⟩
  · rw [List.getElem?_append_right (by omega)] at e
    by_cases e0 : k = l.length
    · rw [e0, Nat.sub_self] at e
      cases e
      exact .inr ⟨e0, rfl⟩
    · rw [List.getElem?_eq_none (by rw [List.length_singleton]; omega)] at e
      cases e
theorem app_lt {α : Type} {l : List α} {x : α} {k : Nat} (hk : k < l.length) : (l ++ [x])[k]? = l[k]? := List.getElem?_append_left hk
theorem plS_ok (hw : WS S) {D : PD} (hB : PDB D) (h2 : 2 ≤ D.2.2.1) : WS (plS S D) := by
  obtain ⟨b1, b2, b3⟩ := hB
  refine ⟨mtT_ok S, hw.2.1, hw.2.2.1, hw.2.2.2.1, hw.2.2.2.2.1, hw.2.2.2.2.2.1, hw.2.2.2.2.2.2.1, .inr ⟨h2, ⟨b2, ?_, ?_, ?_, fun f hf => ?_⟩, ⟨?_, ?_, fun f hf => ⟨?_, ?_, ?_, ?_⟩⟩, Nat.zero_le _, trivial, Nat.zero_le _, (fun a ha => by cases ha), (fun q e => by cases e)⟩, Nat.zero_le _, (fun k q e => by cases e)⟩
  · exact (b1 0 (by decide)).2
  · exact (b1 1 (by decide)).1
  · exact (b1 1 (by decide)).2
  · exact (b3 f hf 3 (by decide)).2
  · exact (b1 2 (by decide)).2
  · exact Nat.zero_le _
  · exact Nat.le_trans (b3 f hf 0 (by decide)).2 (by decide)
  · exact (b3 f hf 1 (by decide)).2
  · exact (b3 f hf 2 (by decide)).2
  · exact Nat.le_trans (b3 f hf 4 (by decide)).2 (by decide)
theorem lwS_ok (hw : WS S) {la : Nat} {z : Nat × List Ci} (hz : pLaw (sT S) = .inr z) (h4 : (sL S).length < 4) : WS (lwS S la z.2) := by
  have hg := pLaw_gd (sT S)
  rw [hz] at hg
  obtain ⟨g1, g2, g3, g4⟩ := hg
  have h240 := hw.1.1
  refine ⟨mtT_ok S, ?_, fun k q e => ?_, fun k e => ?_, hw.2.2.2.2.1, hw.2.2.2.2.2.1, hw.2.2.2.2.2.2.1, hw.2.2.2.2.2.2.2.1, hw.2.2.2.2.2.2.2.2⟩
  · show (sL S ++ [_]).length ≤ 4
    rw [List.length_append, List.length_singleton]; omega
  · rcases app_get (show (sL S ++ [(la, sT S, z.2)])[k]? = some q from e) with ⟨_, e⟩ | ⟨_, rfl⟩
    · exact hw.2.2.1 k q e
    · exact ⟨hw.1, by show z.2.length ≤ 240; omega, g4⟩
  · show k < (sL S ++ [_]).length
    rw [List.length_append]
    have := hw.2.2.2.1 k e
    omega
theorem lwS_x (hx : LX (sL S)) {la : Nat} {z : Nat × List Ci} (hz : pLaw (sT S) = .inr z) : LX (sL (lwS S la z.2)) := fun k q e => by
  rcases app_get (show (sL S ++ [(la, sT S, z.2)])[k]? = some q from e) with ⟨_, e⟩ | ⟨_, rfl⟩
  · exact hx k q e
  · exact ⟨z.1, hz⟩
theorem pnS_ok (hw : WS S) {pa : Nat} {l : List StpT} (hl : pPlan (sT S) = .inr l) (h4 : (sP S).length < 4) : WS (pnS S pa l) := by
  have hg := pPlan_gd (sT S)
  rw [hl] at hg
  obtain ⟨g1, g2, g3⟩ := hg
  refine ⟨mtT_ok S, hw.2.1, hw.2.2.1, hw.2.2.2.1, ?_, fun k q e => ?_, hw.2.2.2.2.2.2.1, hw.2.2.2.2.2.2.2.1, hw.2.2.2.2.2.2.2.2⟩
  · show (sP S ++ [_]).length ≤ 4
    rw [List.length_append, List.length_singleton]; omega
  · rcases app_get (show (sP S ++ [(pa, l.length, fun i => l.getD i (0, 0, 0))])[k]? = some q from e) with ⟨_, e⟩ | ⟨_, rfl⟩
    · exact hw.2.2.2.2.2.1 k q e
    · refine ⟨g1, g2, fun i hi => g3 _ ?_⟩
      show l.getD i (0, 0, 0) ∈ l
      rw [List.getD_eq_getElem?_getD, List.getElem?_eq_getElem hi]
      exact List.getElem_mem hi
/-- the class's call, and the reference's cells -/
def OkC (σ : Me) (S' : Sy) (v : Int32) (o : Option (Int32 × Me)) : Prop := ∃ σ' : Me, o = some (v, σ') ∧ Sh σ' ∧ RC σ' S' ∧ (∀ S0 : Sy, WS S0 → RM σ S0 → RM σ' S0) ∧ mz σ' ≤ mz σ + 4
theorem OkC.of {S' : Sy} {v : Int32} {σ' : Me} {o : Option (Int32 × Me)} (e : o = some (v, σ')) (h : Sh σ') (hr : RC σ' S') (f : Fr clS σ σ') : OkC σ S' v o := ⟨σ', e, h, hr, fun S0 hw hm => hm.cl f hw, by rw [f.2.1]; omega⟩
/-- the tape is emptied -/
theorem tx46 (h : Sh σ) {x : Int32} (hx : x ≠ -1) : fc11_text_46 N (some 0) x σ = some (x, setI σ 1 1 0) := by
  have q : qR σ 11 0 (some 0) = some (some 1) := by simp only [qR, PK h, bnd]
  have p : pI σ 10 1 (some 1) (0 : Int32) = some (setI σ 1 1 0) := by simp only [pI, PR h, bnd]
  rw [fc11_text_46, if_neg hx, q, bnd, p, bnd]
theorem tp_mt {τ : Me} : TpC (setI τ 1 1 0) (mtT S) := ⟨mi_eq _ _ _ _, fun k hk => absurd hk (Nat.not_lt_zero _)⟩
def t1X : Nat → Nat → Bool := fun a j => a == 1 && j == 1
theorem t1X_f : Sf t1X := by
  have h : ∀ q ∈ rfL, t1X q.1.1 q.1.2 = false := by decide +kernel
  exact h
theorem t1_fr {τ : Me} : Fr t1X τ (setI τ 1 1 0) := fr_I rfl (Fr.rf _ _)
theorem t1_cl {a j : Nat} (h : clS a j = false) : t1X a j = false := by
  simp only [clS, t1X, Bool.or_eq_false_iff, Bool.and_eq_false_iff, decide_eq_false_iff_not, beq_eq_false_iff_ne] at h ⊢
  omega
theorem settleT_c (h : Sh σ) (hr : RC σ S) (hw : WS S) {D : PD} (hD : DrC σ D) (hB : PDB D) (h2 : 2 ≤ D.2.2.1) : ∃ σ' : Me, (fc11_settleThere N 0 σ).bind (fun p24 => fc11_text_46 N (some 0) p24.1 p24.2) = some (nI D.2.2.1, σ') ∧ Sh σ' ∧ RC σ' (plS S D) ∧ Fr clS σ σ' := by
  obtain ⟨σ1, c1, c2, c3⟩ := copyFrom_c (N := N) h (a := 19) (b := 5) (.inl rfl) (.inr (.inl rfl)) (by decide)
  obtain ⟨d1, d2, d3, d4, d5, d6, d7⟩ := hD
  have hL : LdC σ1 19 (D.2.2.1, D.2.1 0, D.2.1 1, fun f => D.2.2.2 f 3) (fun f => D.2.2.2 f 0, fun f => D.2.2.2 f 1, fun f => D.2.2.2 f 2, fun f => D.2.2.2 f 4, D.2.1 2, 0) := c3 _ _ ⟨d5, d2, d3, d4, d6, fun f hf => d7 f hf⟩ hB.2.1
  have h6 := hB.2.1
  have h1 : Sh σ1 := c2.sh (by
    have h : ∀ q ∈ rfL, ldS 19 q.1.1 q.1.2 = false := by decide +kernel
    exact h) h
  have q10 : qR σ 11 10 (some 0) = some (some 19) := by simp only [qR, PK h, bnd]
  have q1 : qR σ 11 1 (some 0) = some (some 3) := by simp only [qR, PK h, bnd]
  have d19 : dr σ (some 19) (.inl 2) = some 19 := (PK h).2.2.1
  have e14 : ∀ τ : Me, Sh τ → qR τ 11 14 (some 0) = some (some 41) := fun τ hτ => by simp only [qR, PK hτ, bnd]
  have e15 : ∀ τ : Me, Sh τ → qR τ 11 15 (some 0) = some (some 48) := fun τ hτ => by simp only [qR, PK hτ, bnd]
  have e10 : ∀ τ : Me, Sh τ → qR τ 11 10 (some 0) = some (some 19) := fun τ hτ => by simp only [qR, PK hτ, bnd]
  have p2 : pI σ1 5 2 (some 41) (0 : Int32) = some (setI σ1 41 2 0) := by simp only [pI, PK h1, bnd]
  have h2' : Sh (setI σ1 41 2 0) := h1
  have p5 : pZ (setI σ1 41 2 0) 5 5 (some 41) (0 : Int32) = some (setI (setI σ1 41 2 0) 41 5 0) := by
    unfold pZ
    rw [if_pos (.inl rfl)]
    simp only [PK h2', bnd]
  have h3' : Sh (setI (setI σ1 41 2 0) 41 5 0) := h1
  have p4 : pI (setI (setI σ1 41 2 0) 41 5 0) 1 4 (some 48) (0 : Int32) = some (setI (setI (setI σ1 41 2 0) 41 5 0) 48 4 0) := by simp only [pI, PK h3', bnd]
  have h4' : Sh (setI (setI (setI σ1 41 2 0) 41 5 0) 48 4 0) := h1
  have q5 : qI (setI (setI (setI σ1 41 2 0) 41 5 0) 48 4 0) 2 5 (some 19) = some (nI D.2.2.1) := by
    have e : mi (setI (setI (setI σ1 41 2 0) 41 5 0) 48 4 0) 19 5 = nI D.2.2.1 := by
      simp (disch := omega) only [mi_ne]
      exact hL.1
    simp only [qI, PK h4', bnd, e]
  have fa : Fr (fun a j => ldS 19 a j || (a == 41 && (j == 2 || j == 5)) || (a == 48 && j == 4) || (a == 1 && j == 1)) σ (setI (setI (setI (setI σ1 41 2 0) 41 5 0) 48 4 0) 1 1 0) := fr_I rfl (fr_I rfl (fr_I rfl (fr_I rfl (c2.mono (fun a j e => by
    simp only [Bool.or_eq_false_iff] at e
    exact e.1.1.1)))))
  have hi : ∀ a j, 85 ≤ a → a ≠ 0 → (ldS 19 a j || (a == 41 && (j == 2 || j == 5)) || (a == 48 && j == 4) || (a == 1 && j == 1)) = false := fun a j h1 _ => by
    simp [ldS]; omega
  obtain ⟨r1, r2, r3, r4, ⟨-, ⟨nx, n1, n2, -, -⟩, -, -⟩, -⟩ := hr
  refine ⟨setI (setI (setI (setI σ1 41 2 0) 41 5 0) 48 4 0) 1 1 0, ?_, h1, ⟨tp_mt, r2.fr fa (b := 0) (.inl (by decide)) rfl rfl (fun _ => rfl) rfl hi, r3.fr r2 fa (b := 0) (.inl (by decide)) rfl (fun _ => rfl) hi, ?_, ⟨?_, ⟨nx, n1, ?_, ?_, fun i a e => by cases e⟩, ?_, ?_⟩, ?_, fun k q e => by cases e⟩, fa.mono (fun a j e => ?_)⟩
  · rw [fc11_settleThere, q10, bnd, q1, bnd, iq3 h, bnd, d19, bnd, c1, bnd, e14 σ1 h1, bnd, p2, bnd, e14 _ h2', bnd, p5, bnd, e15 _ h3', bnd, p4, bnd, e10 _ h4', bnd, q5, bnd, bnd, tx46 h4' (nI_m1 (by omega))]
  · show mi _ 0 9 = nI (sE S)
    rw [fa.i rfl]; exact r4
  · exact hL.fr (S := fun a j => (a == 41 && (j == 2 || j == 5)) || (a == 48 && j == 4) || (a == 1 && j == 1)) (fr_I rfl (fr_I rfl (fr_I rfl (fr_I rfl (Fr.rf _ _))))) (fun _ => ⟨rfl, rfl, rfl, rfl, rfl, rfl⟩)
  · simp (disch := omega) only [mi_ne]
    rw [c2.i rfl]; exact n2
  · simp (disch := omega) only [mi_ne, mi_eq]; rfl
  · intro y hy1 hy2
    exact absurd hy2 (Nat.not_lt_zero _)
  · show mi _ 41 5 = nI 0
    simp (disch := omega) only [mi_ne, mi_eq]; rfl
  · show mi _ 48 4 = nI 0
    simp (disch := omega) only [mi_ne, mi_eq]; rfl
  · simp only [clS, ldS, Bool.or_eq_false_iff, Bool.and_eq_false_iff, decide_eq_false_iff_not, beq_eq_false_iff_ne] at e ⊢
    omega
end TX
