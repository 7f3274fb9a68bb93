/-! plains told as texts: clauses; the class -/
abbrev PD : Type := Bool × (Nat → Nat) × Nat × (Nat → Nat → Nat)
abbrev PC3 : Type := Nat ⊕ (Nat × PD)
def upR (g : Nat → Nat → Nat) (n : Nat) (v : Nat → Nat) : Nat → Nat → Nat := fun f => if f = n then v else g f
def pPC (T : Tx) (D : PD) (q : Nat) : PC3 :=
  if chr T q = 115 ∧ D.1 = false then (match pIt T true (q + 1) with
    | .inl f => .inl f
    | .inr z => .inr (z.1, (true, z.2, D.2.2.1, D.2.2.2)))
  else if chr T q = 102 ∧ D.2.2.1 < 6 then (match pIt T false (q + 1) with
    | .inl f => .inl f
    | .inr z => .inr (z.1, (D.1, D.2.1, D.2.2.1 + 1, upR D.2.2.2 D.2.2.1 z.2)))
  else .inl q
def pPlL (T : Tx) : Nat → Nat → PD → Nat ⊕ PD
  | 0, p, _ => .inl p
  | m + 1, p, D => match pPC T D (nx T p) with
    | .inl f => .inl f
    | .inr z => if chr T z.1 = 0 then (if z.2.2.2.1 < 2 then .inl z.1 else .inr z.2) else if chr T z.1 = 59 then pPlL T m (z.1 + 1) z.2 else .inl z.1
def pPlain (T : Tx) : Nat ⊕ PD := pPlL T 241 0 (false, usI true, 0, fun _ _ => 0)
def PDB (D : PD) : Prop := itB true D.2.1 ∧ D.2.2.1 ≤ 6 ∧ ∀ f, f < D.2.2.1 → itB false (D.2.2.2 f)
def GdC (T : Tx) (q : Nat) (x : PC3) : Prop := match x with
  | .inl f => f ≤ T.1
  | .inr z => q < z.1 ∧ z.1 ≤ T.1 ∧ nx T z.1 = z.1 ∧ PDB z.2
theorem pPC_gd {T : Tx} {D : PD} (hD : PDB D) {q : Nat} (hq : q ≤ T.1) : GdC T q (pPC T D q) := by
  unfold pPC
  split
  · rename_i e
    have hlt : q < T.1 := chr_in (by omega)
    have hg := pIt_gd (T := T) (b := true) (p := q + 1) hlt
    generalize pIt T true (q + 1) = x at hg ⊢
    rcases x with f | z
    · exact hg
    · obtain ⟨g1, g2, g3, g4⟩ := hg
      exact ⟨by show q < z.1; omega, g2, g3, g4, hD.2⟩
  · split
    · rename_i e
      have hlt : q < T.1 := chr_in (by omega)
      have hg := pIt_gd (T := T) (b := false) (p := q + 1) hlt
      generalize pIt T false (q + 1) = x at hg ⊢
      rcases x with f | z
      · exact hg
      · obtain ⟨g1, g2, g3, g4⟩ := hg
        refine ⟨by show q < z.1; omega, g2, g3, hD.1, by show D.2.2.1 + 1 ≤ 6; omega, fun f hf => ?_⟩
        show itB false (upR D.2.2.2 D.2.2.1 z.2 f)
        unfold upR
        by_cases w : f = D.2.2.1
        · rw [if_pos w]; exact g4
        · rw [if_neg w]; exact hD.2.2 f (by have : f < D.2.2.1 + 1 := hf; omega)
    · exact hq
def GdA (T : Tx) (x : Nat ⊕ PD) : Prop := match x with
  | .inl f => f ≤ T.1
  | .inr D => PDB D ∧ 2 ≤ D.2.2.1
theorem pPlL_gd {T : Tx} : ∀ (m p : Nat) (D : PD), p ≤ T.1 → PDB D → GdA T (pPlL T m p D)
  | 0, p, _, hp, _ => hp
  | m + 1, p, D, hp, hD => by
    unfold pPlL
    have hg := pPC_gd hD (nx_le hp)
    generalize pPC T D (nx T p) = x at hg ⊢
    rcases x with f | z
    · exact hg
    · obtain ⟨g1, g2, g3, g4⟩ := hg
      simp only
      split
      · split
        · exact g2
        · rename_i h
          exact ⟨g4, by omega⟩
      · split
        · rename_i e
          have hlt : z.1 < T.1 := chr_in (by omega)
          exact pPlL_gd m _ _ hlt g4
        · exact g2
theorem pPlain_gd (T : Tx) : GdA T (pPlain T) := pPlL_gd 241 0 _ (Nat.zero_le _) ⟨us_B true, Nat.zero_le _, fun f hf => absurd hf (Nat.not_lt_zero _)⟩
/-! the class -/
def ptX : Nat → Nat → Bool := fun a j => (a == 1 && j == 2) || a == 4 || (a == 3 && j == 2) || (a == 5 && decide (5 ≤ j)) || (decide (6 ≤ a) && decide (a ≤ 10))
theorem ptX_f : Sf ptX := by
  have h : ∀ q ∈ rfL, ptX q.1.1 q.1.2 = false := by decide +kernel
  exact h
theorem Fr.ip {σ σ' : Me} (h : Fr itX σ σ') : Fr ptX σ σ' := h.mono (fun a j e => by
  simp only [ptX, Bool.or_eq_false_iff] at e
  simp only [itX, Bool.or_eq_false_iff]
  exact e.1.1.1)
def DrC (σ : Me) (D : PD) : Prop := mi σ 3 2 = bI D.1 ∧ mi σ 5 6 = nI (D.2.1 0) ∧ mi σ 5 7 = nI (D.2.1 1) ∧ mi σ 5 8 = nI (D.2.1 2) ∧ mi σ 5 5 = nI D.2.2.1 ∧ mi σ 5 9 = nI 0 ∧ ∀ f, f < D.2.2.1 → mi σ 6 f = nI (D.2.2.2 f 0) ∧ mi σ 7 f = nI (D.2.2.2 f 1) ∧ mi σ 8 f = nI (D.2.2.2 f 2) ∧ mi σ 9 f = nI (D.2.2.2 f 3) ∧ mi σ 10 f = nI (D.2.2.2 f 4)
theorem DrC.it {σ σ' : Me} {D : PD} (h : DrC σ D) (f : Fr itX σ σ') : DrC σ' D := by
  obtain ⟨h1, h2, h3, h4, h5, h6, h7⟩ := h
  exact ⟨by rw [f.i rfl]; exact h1, by rw [f.i rfl]; exact h2, by rw [f.i rfl]; exact h3, by rw [f.i rfl]; exact h4, by rw [f.i rfl]; exact h5, by rw [f.i rfl]; exact h6, fun k hk => by
    rw [f.i rfl, f.i rfl, f.i rfl, f.i rfl, f.i rfl]; exact h7 k hk⟩
section PP
variable {N : Nat} {σ : Me} {T : Tx} {p : Nat}
def usRow (b : Bool) : Nat := if b = true then 1000000 else 1000001
theorem setW_c (h : Sh σ) (b : Bool) : ∃ σ' : Me, fc6_setWithout N 3 (some (usRow b)) σ = some ((), σ') ∧ Fr (fun a _ => a == 4) σ σ' ∧ ∀ k, k < itC b → mi σ' 4 k = nI (usI b k) := by
  have h5 := itC_le b
  have l1 : aLn σ .int (some (usRow b)) = some (nI (itC b)) := by cases b <;> rfl
  have r1 : irow σ (some (usRow b)) = some (itC b, fun j => (sLs (usRow b - 1000000)).getD j 0) := by cases b <;> rfl
  have k4 := K4 h
  have hc : cpI σ (some (usRow b)) (nI 0) (some 4) (nI 0) (nI (itC b)) = some (cpRow σ 4 (fun j => (sLs (usRow b - 1000000)).getD j 0) 0 0 (itC b)) := by
    unfold cpI
    rw [r1, bnd]
    simp only [k4.1]
    rw [nI_clamp (by decide), nI_clamp (by omega), if_pos ⟨⟨trivial, k4.2.1, k4.2.2⟩, nI_pos (by decide), nI_pos (by decide), nI_pos (by omega), by omega, by omega⟩]
  refine ⟨cpRow σ 4 (fun j => (sLs (usRow b - 1000000)).getD j 0) 0 0 (itC b), ?_, fr_cp (fun j _ _ => rfl) (Fr.rf _ _), fun k hk => ?_⟩
  · rw [fc6_setWithout, iq1 h, bnd, l1, bnd, bnd, Z4 h, bnd, min_N N σ (by omega) (by decide), bnd, Nat.min_eq_left h5, y0, hc, bnd]
    rfl
  · rw [mi_cpi (by omega)]
    have e : ∀ b : Bool, ∀ k, k < itC b → (sLs (usRow b - 1000000)).getD (0 + (k - 0)) 0 = nI (usI b k) := by decide +kernel
    exact e b k hk
theorem takeR_c (h : Sh σ) {v : Nat → Nat} (hv : ∀ k, k < 3 → mi σ 4 k = nI (v k)) {D : PD} (hD : DrC σ D) : ∃ σ' : Me, fc6_takeRules N 3 σ = some ((), σ') ∧ Fr ptX σ σ' ∧ mi σ' 1 2 = mi σ 1 2 ∧ DrC σ' (D.1, v, D.2.2) := by
  refine ⟨setI (setI (setI σ 5 6 (nI (v 0))) 5 7 (nI (v 1))) 5 8 (nI (v 2)), ?_, fr_I rfl (fr_I rfl (fr_I rfl (Fr.rf _ _))), by simp (disch := omega) only [mi_ne], ?_⟩
  · have l0 : ldI σ (some 4) (0 : Int32) = some (nI (v 0)) := by rw [y0, ld_4 h (by decide), hv 0 (by decide)]
    have h1 : Sh (setI σ 5 6 (nI (v 0))) := h
    have l1 : ldI (setI σ 5 6 (nI (v 0))) (some 4) (1 : Int32) = some (nI (v 1)) := by rw [y1, ld_4 h1 (by decide), mi_ne _ _ (by omega), hv 1 (by decide)]
    have h2 : Sh (setI (setI σ 5 6 (nI (v 0))) 5 7 (nI (v 1))) := h
    have l2 : ldI (setI (setI σ 5 6 (nI (v 0))) 5 7 (nI (v 1))) (some 4) (2 : Int32) = some (nI (v 2)) := by rw [y2, ld_4 h2 (by decide), mi_ne _ _ (by omega), mi_ne _ _ (by omega), hv 2 (by decide)]
    have p : ∀ (τ : Me) (j : Nat) (x : Int32), Sh τ → pI τ 2 j (some 5) x = some (setI τ 5 j x) := fun τ j x hτ => by simp only [pI, PR hτ, bnd]
    rw [fc6_takeRules, iq3 h, bnd, iq1 h, bnd, l0, bnd, p σ 6 _ h, bnd, iq3 h1, bnd, iq1 h1, bnd, l1, bnd, p _ 7 _ h1, bnd, iq3 h2, bnd, iq1 h2, bnd, l2, bnd, p _ 8 _ h2, bnd]
  · obtain ⟨d1, d2, d3, d4, d5, d6, d7⟩ := hD
    refine ⟨?_, ?_, ?_, mi_eq _ _ _ _, ?_, ?_, fun f hf => ?_⟩
    · simp (disch := omega) only [mi_ne]; exact d1
    · simp (disch := omega) only [mi_ne, mi_eq]
    · simp (disch := omega) only [mi_ne, mi_eq]
    · simp (disch := omega) only [mi_ne]; exact d5
    · simp (disch := omega) only [mi_ne]; exact d6
    · simp (disch := omega) only [mi_ne]; exact d7 f hf
theorem takeF_c (h : Sh σ) {v : Nat → Nat} (hv : ∀ k, k < 5 → mi σ 4 k = nI (v k)) {D : PD} (hD : DrC σ D) (hn : D.2.2.1 < 6) : ∃ σ' : Me, fc6_takeField N 3 σ = some ((), σ') ∧ Fr ptX σ σ' ∧ mi σ' 1 2 = mi σ 1 2 ∧ DrC σ' (D.1, D.2.1, D.2.2.1 + 1, upR D.2.2.2 D.2.2.1 v) := by
  obtain ⟨d1, d2, d3, d4, d5, d6, d7⟩ := hD
  generalize hne : D.2.2.1 = n at hn d5 d7 ⊢
  refine ⟨setI (setI (setI (setI (setI (setI σ 6 n (nI (v 0))) 7 n (nI (v 1))) 8 n (nI (v 2))) 9 n (nI (v 3))) 10 n (nI (v 4))) 5 5 (nI (n + 1)), ?_, fr_I rfl (fr_I (by simp [ptX]) (fr_I (by simp [ptX]) (fr_I (by simp [ptX]) (fr_I (by simp [ptX]) (fr_I (by simp [ptX]) (Fr.rf _ _)))))), by simp (disch := omega) only [mi_ne], ?_⟩
  · have e0 := hv 0 (by decide)
    have e1 := hv 1 (by decide)
    have e2 := hv 2 (by decide)
    have e3 := hv 3 (by decide)
    have e4 := hv 4 (by decide)
    simp (disch := omega) only [fc6_takeField, qR, qI, pI, ldI_lo, stI, PR h, bnd, y0, y1, y2, y3, y4, A4 h, A6 h, A7 h, A8 h, A9 h, A10 h, nI_clamp, dr_setI, mr_setI, arr_setI, mi_ne, e0, e1, e2, e3, e4, d5, nI_add]
  · refine ⟨?_, ?_, ?_, ?_, mi_eq _ _ _ _, ?_, fun f hf => ?_⟩
    · simp (disch := omega) only [mi_ne]; exact d1
    · simp (disch := omega) only [mi_ne]; exact d2
    · simp (disch := omega) only [mi_ne]; exact d3
    · simp (disch := omega) only [mi_ne]; exact d4
    · simp (disch := omega) only [mi_ne]; exact d6
    · have hf : f < n + 1 := hf
      show _ = nI (upR D.2.2.2 n v f 0) ∧ _ = nI (upR D.2.2.2 n v f 1) ∧ _ = nI (upR D.2.2.2 n v f 2) ∧ _ = nI (upR D.2.2.2 n v f 3) ∧ _ = nI (upR D.2.2.2 n v f 4)
      by_cases w : f = n
      · have u : upR D.2.2.2 n v f = v := by unfold upR; rw [if_pos w]
        rw [u, w]
        refine ⟨?_, ?_, ?_, ?_, ?_⟩ <;> simp (disch := omega) only [mi_ne, mi_eq]
      · have u : upR D.2.2.2 n v f = D.2.2.2 f := by unfold upR; rw [if_neg w]
        rw [u]
        have := d7 f (by omega)
        refine ⟨?_, ?_, ?_, ?_, ?_⟩
        · simp (disch := omega) only [mi_ne]; exact this.1
        · simp (disch := omega) only [mi_ne]; exact this.2.1
        · simp (disch := omega) only [mi_ne]; exact this.2.2.1
        · simp (disch := omega) only [mi_ne]; exact this.2.2.2.1
        · simp (disch := omega) only [mi_ne]; exact this.2.2.2.2
def ParK (T : Tx) (σ : Me) (x : PC3) (o : Option (Int32 × Me)) : Prop := match x with
  | .inl f => ∃ σ' : Me, o = some (0, σ') ∧ Fr ptX σ σ' ∧ mi σ' 1 2 = nI f
  | .inr z => ∃ σ' : Me, o = some (if chr T z.1 = 59 ∨ chr T z.1 = 0 then 1 else 0, σ') ∧ Fr ptX σ σ' ∧ mi σ' 1 2 = nI z.1 ∧ DrC σ' z.2
theorem r01 (c : Prop) [Decidable c] (σ : Me) : retZ (if c then (1 : Int32) else 0) σ = some (if c then 1 else 0, σ) := by
  by_cases h : c
  · rw [if_pos h, retZ1]
  · rw [if_neg h, retZ0]
theorem sp4_f {σ σ' : Me} (f : Fr (fun a _ => a == 4) σ σ') : Fr itX σ σ' := f.mono (fun a j e => by
  simp only [itX, Bool.or_eq_false_iff] at e
  exact e.2)
theorem clsF_c (h : Sh σ) (hT : txOK T) (ht : TpC σ T) (hp : mi σ 1 2 = nI p) (hpl : p ≤ T.1) (hN : 300 ≤ N) {D : PD} (hD : DrC σ D) (hB : PDB D) : ParK T σ (if chr T p = 102 ∧ D.2.2.1 < 6 then (match pIt T false (p + 1) with
    | .inl f => .inl f
    | .inr z => .inr (z.1, (D.1, D.2.1, D.2.2.1 + 1, upR D.2.2.2 D.2.2.1 z.2)))
  else .inl p) (fc6_readClause_65 N (some 3) (nI (chr T p)) σ) := by
  have hb := chr_lt hT p
  have q5 : qI σ 2 5 (some 5) = some (nI D.2.2.1) := by simp only [qI, PR h, bnd, hD.2.2.2.2.1]
  have h6 := hB.2.1
  unfold fc6_readClause_65
  by_cases c1 : chr T p = 102
  · rw [if_pos ((chI y102 hb (by decide)).mpr c1), iq3 h, bnd, q5, bnd, y6]
    by_cases c2 : D.2.2.1 < 6
    · have hlt : p < T.1 := chr_in (by omega)
      have f1 : Fr itX σ (setI σ 1 2 (nI (p + 1))) := fr_I rfl (Fr.rf _ _)
      have h1 : Sh (setI σ 1 2 (nI (p + 1))) := h
      obtain ⟨σ2, w1, w2, w3⟩ := setW_c (N := N) h1 false
      have h2 := (sp4_f w2).sh itX_f h1
      have f2 : Fr itX σ σ2 := f1.tr (sp4_f w2)
      have e2 : mi σ2 1 2 = nI (p + 1) := by rw [w2.i rfl]; exact mi_eq _ _ _ _
      rw [if_neg (nI_ge c2 (by decide)), iq0 h, bnd, tq2 h hp, bnd, tp2 h, bnd, nI_1, d3 h1, bnd]
      show ParK T σ _ ((fc6_setWithout N 3 (some (usRow false)) _).bind _)
      rw [w1, bnd, d3 h2, bnd, if_pos ⟨c1, c2⟩]
      have k := items6_c (b := false) (σ0 := σ2) hT hN 6 0 (p + 1) 0 N (usI false) σ2 rfl (by omega) (by omega) (by decide) h2 (ht.fr f2 rfl (fun _ => rfl)) e2 w3 (Fr.rf _ _)
      have k : ParI T σ2 5 (pIt T false (p + 1)) (fc6_readItems N 3 (some 1000021) (some 1000004) (some 1000005) σ2) := k
      generalize pIt T false (p + 1) = x at k ⊢
      rcases x with c | z
      · obtain ⟨σ3, y1, y2, y3⟩ := k
        have h3 := y2.sh itX_f h2
        have hD3 := hD.it (f2.tr y2)
        have v3 : ∀ k, k < 5 → ∃ m : Nat, mi σ3 4 k = nI m := fun k _ => nI_any _
        obtain ⟨σ4, t1, t2, t3, -⟩ := takeF_c (N := N) h3 (v := fun k => (mi σ3 4 k).toBitVec.toNat) (fun k _ => Int32.toBitVec_inj.1 (by
          show (mi σ3 4 k).toBitVec = BitVec.ofNat 32 (mi σ3 4 k).toBitVec.toNat
          rw [BitVec.ofNat_toNat, BitVec.setWidth_eq])) hD3 c2
        rw [y1, bnd, d3 h3, bnd, t1, bnd, retZ0]
        exact ⟨σ4, rfl, (f2.tr y2).ip.tr t2, by rw [t3]; exact y3⟩
      · obtain ⟨σ3, y1, y2, y3, y4⟩ := k
        have h3 := y2.sh itX_f h2
        obtain ⟨σ4, t1, t2, t3, t4⟩ := takeF_c (N := N) h3 y4 (hD.it (f2.tr y2)) c2
        rw [y1, bnd, d3 h3, bnd, t1, bnd, r01]
        exact ⟨σ4, rfl, (f2.tr y2).ip.tr t2, by rw [t3]; exact y3, t4⟩
    · rw [if_pos (nI_le (by omega) (by omega)), if_neg (fun w => c2 w.2), retZ0]
      exact ⟨σ, rfl, Fr.rf _ _, hp⟩
  · rw [if_neg (fun w => c1 ((chI y102 hb (by decide)).mp w)), if_neg (fun w => c1 w.1), retZ0]
    exact ⟨σ, rfl, Fr.rf _ _, hp⟩
theorem ParK.fr {σ0 σ : Me} {x : PC3} {o : Option (Int32 × Me)} (f : Fr ptX σ0 σ) (h : ParK T σ x o) : ParK T σ0 x o := by
  rcases x with a | z
  · obtain ⟨σ', h1, h2, h3⟩ := h
    exact ⟨σ', h1, f.tr h2, h3⟩
  · obtain ⟨σ', h1, h2, h3⟩ := h
    exact ⟨σ', h1, f.tr h2, h3⟩
theorem clsP_c (h : Sh σ) (hT : txOK T) (ht : TpC σ T) (hp : mi σ 1 2 = nI p) (hpl : p ≤ T.1) (hN : 300 ≤ N) {D : PD} (hD : DrC σ D) (hB : PDB D) : ParK T σ (pPC T D (nx T p)) (fc6_readClause N 3 σ) := by
  obtain ⟨σ1, q1, q2, q3⟩ := next_c (N := N) h hT ht hp hpl hN
  have h1 := q2.sh aX_f h
  have hb := chr_lt hT (nx T p)
  have hl := nx_le hpl
  have t1 := ht.ax q2
  have hD1 := hD.it q2.ai
  have k65 := (clsF_c (N := N) h1 hT t1 q3 hl hN hD1 hB).fr q2.ai.ip
  rw [fc6_readClause, iq0 h, bnd, (PR h).1, bnd, q1, bnd]
  unfold pPC
  by_cases c1 : chr T (nx T p) = 115
  · have q2' : qI σ1 6 2 (some 3) = some (bI D.1) := by simp only [qI, PR h1, bnd, hD1.1]
    rw [if_pos ((chI y115 hb (by decide)).mpr c1), q2', bnd]
    cases hr : D.1 with
    | true =>
      rw [if_neg (show ¬ bI true = 0 by decide), if_neg (fun w => by cases w.2)]
      rw [hr] at k65
      exact k65
    | false =>
      have hlt : nx T p < T.1 := chr_in (by omega)
      rw [if_pos (show bI false = 0 from rfl), if_pos ⟨c1, rfl⟩]
      have f1 : Fr ptX σ (setI (setI σ1 1 2 (nI (nx T p + 1))) 3 2 1) := fr_I rfl (fr_I rfl q2.ai.ip)
      have h2 : Sh (setI (setI σ1 1 2 (nI (nx T p + 1))) 3 2 1) := h1
      have pz : pZ (setI σ1 1 2 (nI (nx T p + 1))) 6 2 (some 3) (1 : Int32) = some (setI (setI σ1 1 2 (nI (nx T p + 1))) 3 2 1) := by
        unfold pZ
        rw [if_pos (.inr rfl), dr_setI, d3 h1, bnd]
      obtain ⟨σ2, w1, w2, w3⟩ := setW_c (N := N) h2 true
      have h3 := (sp4_f w2).sh itX_f h2
      have e2 : mi σ2 1 2 = nI (nx T p + 1) := by rw [w2.i rfl, mi_ne _ _ (by omega)]; exact mi_eq _ _ _ _
      have hD2 : DrC (setI (setI σ1 1 2 (nI (nx T p + 1))) 3 2 1) (true, D.2) := by
        obtain ⟨d1, d2, d3, d4, d5, d6, d7⟩ := hD1
        refine ⟨?_, ?_, ?_, ?_, ?_, ?_, fun f hf => ?_⟩
        · rw [mi_eq]; rfl
        · simp (disch := omega) only [mi_ne]; exact d2
        · simp (disch := omega) only [mi_ne]; exact d3
        · simp (disch := omega) only [mi_ne]; exact d4
        · simp (disch := omega) only [mi_ne]; exact d5
        · simp (disch := omega) only [mi_ne]; exact d6
        · simp (disch := omega) only [mi_ne]; exact d7 f hf
      have f2 : Fr ptX σ σ2 := f1.tr (sp4_f w2).ip
      rw [iq0 h1, bnd, tq2 h1 q3, bnd, tp2 h1, bnd, nI_1, pz, bnd, d3 h2, bnd]
      show ParK T σ _ ((fc6_setWithout N 3 (some (usRow true)) _).bind _)
      rw [w1, bnd, d3 h3, bnd]
      have k := items6_c (b := true) (σ0 := σ2) hT hN 4 0 (nx T p + 1) 0 N (usI true) σ2 rfl (by omega) (by omega) (by decide) h3 (ht.fr f2 rfl (fun _ => rfl)) e2 w3 (Fr.rf _ _)
      have k : ParI T σ2 3 (pIt T true (nx T p + 1)) (fc6_readItems N 3 (some 1000020) (some 1000002) (some 1000003) σ2) := k
      generalize pIt T true (nx T p + 1) = x at k ⊢
      rcases x with c | z
      · obtain ⟨σ3, y1, y2, y3⟩ := k
        have h4 := y2.sh itX_f h3
        have hD3 := hD2.it ((sp4_f w2).tr y2)
        obtain ⟨σ4, t1, t2, t3, -⟩ := takeR_c (N := N) h4 (v := fun k => (mi σ3 4 k).toBitVec.toNat) (fun k _ => Int32.toBitVec_inj.1 (by
          show (mi σ3 4 k).toBitVec = BitVec.ofNat 32 (mi σ3 4 k).toBitVec.toNat
          rw [BitVec.ofNat_toNat, BitVec.setWidth_eq])) hD3
        rw [y1, bnd, d3 h4, bnd, t1, bnd, retZ0]
        exact ⟨σ4, rfl, (f2.tr y2.ip).tr t2, by rw [t3]; exact y3⟩
      · obtain ⟨σ3, y1, y2, y3, y4⟩ := k
        have h4 := y2.sh itX_f h3
        obtain ⟨σ4, t1, t2, t3, t4⟩ := takeR_c (N := N) h4 y4 (hD2.it ((sp4_f w2).tr y2))
        rw [y1, bnd, d3 h4, bnd, t1, bnd, r01]
        exact ⟨σ4, rfl, (f2.tr y2.ip).tr t2, by rw [t3]; exact y3, t4⟩
  · rw [if_neg (fun w => c1 ((chI y115 hb (by decide)).mp w)), if_neg (fun w => c1 w.1)]
    exact k65
def ParL (σ : Me) (x : Nat ⊕ PD) (o : Option (Int32 × Me)) : Prop := match x with
  | .inl f => ∃ σ' : Me, o = some (0, σ') ∧ Fr ptX σ σ' ∧ mi σ' 1 2 = nI f
  | .inr D => ∃ σ' : Me, o = some (1, σ') ∧ Fr ptX σ σ' ∧ DrC σ' D
theorem rdP_c (hT : txOK T) (hN : 300 ≤ N) {σ0 : Me} : ∀ (m k p fu : Nat) (D : PD) (σ : Me), k + m = 241 → m < fu → p ≤ T.1 → Sh σ → TpC σ T → mi σ 1 2 = nI p → DrC σ D → PDB D → Fr ptX σ0 σ → ParL σ0 (pPlL T m p D) (fc6_read_42 N fu (some 3) (nI k) σ)
  | _, _, _, 0, _, _, _, h0, _, _, _, _, _, _, _ => absurd h0 (Nat.not_lt_zero _)
  | 0, k, p, fu + 1, D, σ, hk, _, hpl, h, ht, hp, hD, hB, f => by
    rw [fc6_read_42, y240, if_pos (nI_lt (by omega) (by omega)), retZ0]
    exact ⟨σ, rfl, f, hp⟩
  | m + 1, k, p, fu + 1, D, σ, hk, h0, hpl, h, ht, hp, hD, hB, f => by
    have hx := clsP_c (N := N) h hT ht hp hpl hN hD hB
    have hg := pPC_gd hB (nx_le hpl)
    rw [fc6_read_42, y240, if_neg (nI_nlt (by omega) (by decide)), d3 h, bnd]
    unfold pPlL
    generalize pPC T D (nx T p) = x at hx hg ⊢
    rcases x with c | ⟨r, D'⟩
    · obtain ⟨σ1, y1, y2, y3⟩ := hx
      rw [y1, bnd, if_pos rfl, retZ0]
      exact ⟨σ1, rfl, f.tr y2, y3⟩
    · obtain ⟨σ1, y1, y2, y3, y4⟩ := hx
      obtain ⟨g1, g2, g3, g4⟩ := hg
      simp only at g1 g2 g3 g4 y3 y4 y1 ⊢
      have h1 := y2.sh ptX_f h
      have t1 := ht.fr y2 rfl (fun _ => rfl)
      have hb := chr_lt hT r
      obtain ⟨σ2, n1, n2, n3⟩ := next_c (N := N) h1 hT t1 y3 g2 hN
      rw [g3] at n1 n3
      have h2 := n2.sh aX_f h1
      have t2 := t1.ax n2
      have hD2 := y4.it n2.ai
      have f2 : Fr ptX σ0 σ2 := f.tr (y2.tr n2.ai.ip)
      by_cases c0 : chr T r = 0
      · have q5 : qI σ2 2 5 (some 5) = some (nI D'.2.2.1) := by simp only [qI, PR h2, bnd, hD2.2.2.2.2.1]
        have h6 := g4.2.1
        rw [if_pos (show chr T r = 59 ∨ chr T r = 0 from .inr c0)] at y1
        rw [y1, bnd, if_pos c0, if_neg one_z, iq0 h1, bnd, (PR h1).1, bnd, n1, bnd, if_pos ((nI_ze (by omega)).mpr c0), iq3 h2, bnd, q5, bnd]
        by_cases c2 : D'.2.2.1 < 2
        · rw [if_pos c2, if_pos (show nI D'.2.2.1 < (2 : Int32) from nI_lt c2 (by decide)), retZ0]
          exact ⟨σ2, rfl, f2, n3⟩
        · rw [if_neg c2, if_neg (show ¬ nI D'.2.2.1 < (2 : Int32) from nI_nlt (show 2 ≤ D'.2.2.1 by omega) (by omega)), retZ1]
          exact ⟨σ2, rfl, f2, hD2⟩
      · rw [if_neg c0]
        by_cases c1 : chr T r = 59
        · obtain ⟨u1, u2⟩ := take_cc (N := N) (c := 59) h2 hT t2 n3 g2 hN (by decide)
          rw [g3] at u1
          obtain ⟨σ3, w1, w2, w3⟩ := u1 c1
          have hlt : r < T.1 := chr_in (by omega)
          rw [if_pos (show chr T r = 59 ∨ chr T r = 0 from .inl c1)] at y1
          rw [y1, bnd, if_pos c1, if_neg one_z, iq0 h1, bnd, (PR h1).1, bnd, n1, bnd, if_neg (fun w => c0 ((nI_ze (by omega)).mp w)), iq0 h2, bnd, (PR h2).1, bnd, y59, w1, bnd, if_neg one_z, nI_1]
          exact rdP_c hT hN m (k + 1) (r + 1) fu D' σ3 (by omega) (by omega) (by omega) (w2.sh aX_f h2) (t2.ax w2) w3 (hD2.it w2.ai) g4 (f2.tr w2.ai.ip)
        · rw [if_neg (show ¬ (chr T r = 59 ∨ chr T r = 0) from fun w => w.elim c1 c0)] at y1
          rw [y1, bnd, if_neg c1, if_pos rfl, retZ0]
          exact ⟨σ1, rfl, f.tr y2, y3⟩
theorem readA_c (h : Sh σ) (hT : txOK T) (ht : TpC σ T) (hN : 300 ≤ N) : ParL σ (pPlain T) (fc6_read N 3 σ) := by
  have p5 : ∀ (τ : Me) (j : Nat) (x : Int32), Sh τ → pI τ 2 j (some 5) x = some (setI τ 5 j x) := fun τ j x hτ => by simp only [pI, PR hτ, bnd]
  have h1 : Sh (setI σ 1 2 (nI 0)) := h
  have pz : pZ (setI σ 1 2 (nI 0)) 6 2 (some 3) (0 : Int32) = some (setI (setI σ 1 2 (nI 0)) 3 2 0) := by
    unfold pZ
    rw [if_pos (.inl rfl), d3 h1, bnd]
  have h2 : Sh (setI (setI σ 1 2 (nI 0)) 3 2 0) := h
  have h3 : Sh (setI (setI (setI σ 1 2 (nI 0)) 3 2 0) 5 5 (nI 0)) := h
  have h4 : Sh (setI (setI (setI (setI σ 1 2 (nI 0)) 3 2 0) 5 5 (nI 0)) 5 9 (nI 0)) := h
  have f4 : Fr ptX σ (setI (setI (setI (setI σ 1 2 (nI 0)) 3 2 0) 5 5 (nI 0)) 5 9 (nI 0)) := fr_I rfl (fr_I rfl (fr_I rfl (fr_I rfl (Fr.rf _ _))))
  obtain ⟨σ5, w1, w2, w3⟩ := setW_c (N := N) h4 true
  have h5 := (sp4_f w2).sh itX_f h4
  have f5 : Fr ptX σ σ5 := f4.tr (sp4_f w2).ip
  have e12 : mi σ5 1 2 = nI 0 := by
    rw [w2.i rfl]
    simp (disch := omega) only [mi_ne, mi_eq]
  have e6 : fc6_read N 3 σ = (fc6_takeRules N 3 σ5).bind fun p37 => fc6_read_42 N N (some 3) (nI 0) p37.2 := by
    have w1' : fc6_setWithout N 3 (some 1000000) (setI (setI (setI (setI σ 1 2 (nI 0)) 3 2 0) 5 5 (nI 0)) 5 9 (nI 0)) = some ((), σ5) := w1
    have hy : (0 : Int32) = nI 0 := rfl
    rw [fc6_read, iq0 h, bnd, tp2 h]
    show (pZ (setI σ 1 2 (nI 0)) 6 2 (some 3) (0 : Int32)).bind _ = _
    rw [pz, bnd, iq3 h2, bnd, p5 _ 5 _ h2, bnd]
    show (qR (setI (setI (setI σ 1 2 (nI 0)) 3 2 0) 5 5 (nI 0)) 6 3 (some 3)).bind _ = _
    rw [iq3 h3, bnd]
    show (pI (setI (setI (setI σ 1 2 (nI 0)) 3 2 0) 5 5 (nI 0)) 2 9 (some 5) (nI 0)).bind _ = _
    rw [p5 _ 9 _ h3, bnd, d3 h4, bnd, w1', bnd, d3 h5, bnd]
    rfl
  have x3 : mi σ5 3 2 = bI false := by
    rw [w2.i rfl]
    simp (disch := omega) only [mi_ne, mi_eq]
    rfl
  have x5 : mi σ5 5 5 = nI 0 := by
    rw [w2.i rfl]
    simp (disch := omega) only [mi_ne, mi_eq]
  have x9 : mi σ5 5 9 = nI 0 := by
    rw [w2.i rfl]
    simp (disch := omega) only [mi_ne, mi_eq]
  have hD5 : DrC σ5 (false, fun k => if k = 0 then (mi σ5 5 6).toBitVec.toNat else if k = 1 then (mi σ5 5 7).toBitVec.toNat else (mi σ5 5 8).toBitVec.toNat, 0, fun _ _ => 0) := by
    have any : ∀ x : Int32, x = nI x.toBitVec.toNat := fun x => Int32.toBitVec_inj.1 (by
      show x.toBitVec = BitVec.ofNat 32 x.toBitVec.toNat
      rw [BitVec.ofNat_toNat, BitVec.setWidth_eq])
    exact ⟨x3, any _, any _, any _, x5, x9, fun f hf => absurd hf (Nat.not_lt_zero _)⟩
  obtain ⟨σ6, t1, t2, t3, t4⟩ := takeR_c (N := N) h5 w3 hD5
  rw [e6, t1, bnd]
  exact rdP_c hT hN 241 0 0 N _ σ6 rfl (by omega) (Nat.zero_le _) (t2.sh ptX_f h5) (ht.fr (f5.tr t2) rfl (fun _ => rfl)) (by rw [t3]; exact e12) t4 ⟨us_B true, Nat.zero_le _, fun f hf => absurd hf (Nat.not_lt_zero _)⟩ (f5.tr t2)
end PP
