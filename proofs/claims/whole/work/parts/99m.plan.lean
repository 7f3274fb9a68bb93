/-! plans told as texts -/
abbrev StpT : Type := Nat × Nat × Int32
abbrev Ps1 : Type := Nat ⊕ (Nat × StpT)
def kdI (c : Nat) : Nat := if c = 121 then 1 else if c = 109 then 2 else if c = 104 then 3 else if c = 107 then 4 else 0
def pSt2 (T : Tx) (k d q : Nat) : Ps1 := if isD (chr T q) = true then .inr (q + 1, if k = 0 then (0, 10 * d + (chr T q - 48), -1) else (1, d, nI (chr T q - 48))) else .inl q
def pSt1 (T : Tx) (k q : Nat) : Ps1 := if isD (chr T q) = true then (if k ≤ 1 then pSt2 T k (chr T q - 48) (nx T (q + 1)) else .inr (q + 1, (k, chr T q - 48, -1))) else .inl q
def pSt0 (T : Tx) (q : Nat) : Ps1 := if kdI (chr T q) = 0 then .inl q else pSt1 T (kdI (chr T q) - 1) (nx T (q + 1))
def pStp (T : Tx) (p : Nat) : Ps1 := pSt0 T (nx T p)
def pPlnL (T : Tx) : Nat → Nat → List StpT → Nat ⊕ List StpT
  | 0, p, _ => .inl p
  | m + 1, p, A => match pStp T p with
    | .inl f => .inl f
    | .inr z => if chr T (nx T z.1) = 0 then .inr (A ++ [z.2]) else if m = 0 then .inl (nx T z.1) else if chr T (nx T z.1) = 59 then pPlnL T m (nx T z.1 + 1) (A ++ [z.2]) else .inl (nx T z.1)
def pPlan (T : Tx) : Nat ⊕ List StpT := pPlnL T 16 0 []
def GdS (T : Tx) (x : Ps1) : Prop := match x with
  | .inl f => f ≤ T.1
  | .inr z => z.1 ≤ T.1 ∧ stOK z.2
theorem kdI_le (c : Nat) : kdI c ≤ 4 := by
  unfold kdI
  repeat' split
  all_goals omega
theorem pSt2_gd {T : Tx} {k d q : Nat} (hk : k ≤ 1) (hd : d ≤ 9) (hq : q ≤ T.1) : GdS T (pSt2 T k d q) := by
  unfold pSt2
  split
  · rename_i c
    have hc := isD_le c
    have hlt : q < T.1 := chr_in (by omega)
    refine ⟨hlt, ?_⟩
    by_cases e : k = 0
    · rw [if_pos e]
      exact ⟨by simp only; omega, by simp only; omega, fun w => absurd rfl w, fun w => by simp only at w; omega, fun _ => rfl⟩
    · rw [if_neg e]
      exact ⟨by simp only; omega, by simp only; omega, fun _ => hd, fun _ => ⟨_, by omega, rfl⟩, fun w => absurd rfl w⟩
  · exact hq
theorem pSt1_gd {T : Tx} {k q : Nat} (hk : k ≤ 3) (hq : q ≤ T.1) : GdS T (pSt1 T k q) := by
  unfold pSt1
  split
  · rename_i c
    have hc := isD_le c
    have hlt : q < T.1 := chr_in (by omega)
    split
    · rename_i e
      exact pSt2_gd e (by omega) (nx_le hlt)
    · rename_i e
      exact ⟨hlt, hk, by simp only; omega, fun _ => by simp only; omega, fun w => by simp only at w; omega, fun _ => rfl⟩
  · exact hq
theorem pStp_gd {T : Tx} {p : Nat} (hp : p ≤ T.1) : GdS T (pStp T p) := by
  unfold pStp pSt0
  split
  · exact nx_le hp
  · rename_i e
    have hlt : nx T p < T.1 := chr_in (fun w => e (by rw [w]; rfl))
    have := kdI_le (chr T (nx T p))
    exact pSt1_gd (by omega) (nx_le hlt)
def GdP (T : Tx) (x : Nat ⊕ List StpT) : Prop := match x with
  | .inl f => f ≤ T.1
  | .inr l => 1 ≤ l.length ∧ l.length ≤ 16 ∧ ∀ s ∈ l, stOK s
theorem pPlnL_gd {T : Tx} : ∀ (m p : Nat) (A : List StpT), p ≤ T.1 → A.length + m ≤ 16 → (∀ s ∈ A, stOK s) → GdP T (pPlnL T m p A)
  | 0, p, A, hp, _, _ => hp
  | m + 1, p, A, hp, hA, hs => by
    unfold pPlnL
    have hg := pStp_gd hp
    generalize pStp T p = x at hg ⊢
    rcases x with f | ⟨r, s⟩
    · exact hg
    · obtain ⟨g1, g2⟩ := hg
      simp only at g1 g2 ⊢
      have hall : ∀ t ∈ A ++ [s], stOK t := fun t ht => by
        rcases List.mem_append.mp ht with w | w
        · exact hs t w
        · rw [List.mem_singleton.mp w]; exact g2
      split
      · refine ⟨?_, ?_, hall⟩
        · simp only [List.length_append, List.length_cons, List.length_nil]; omega
        · simp only [List.length_append, List.length_cons, List.length_nil]; omega
      · split
        · exact nx_le g1
        · split
          · rename_i e
            have hlt : nx T r < T.1 := chr_in (by omega)
            exact pPlnL_gd m _ _ hlt (by simp only [List.length_append, List.length_cons, List.length_nil]; omega) hall
          · exact nx_le g1
theorem pPlan_gd (T : Tx) : GdP T (pPlan T) := pPlnL_gd 16 0 [] (Nat.zero_le _) (Nat.le_refl _) (fun s h => by cases h)
/-! the class -/
def plX : Nat → Nat → Bool := fun a j => (a == 1 && j == 2) || (a == 13 && j == 4) || (decide (14 ≤ a) && decide (a ≤ 16))
theorem plX_f : Sf plX := by
  have h : ∀ q ∈ rfL, plX q.1.1 q.1.2 = false := by decide +kernel
  exact h
theorem Fr.ap {σ σ' : Me} (h : Fr aX σ σ') : Fr plX σ σ' := h.mono (fun a j e => by
  simp only [plX, Bool.or_eq_false_iff] at e
  exact e.1.1)
/-- a step's three cells -/
def StC (σ : Me) (i : Nat) (s : StpT) : Prop := mi σ 14 i = nI s.1 ∧ mi σ 15 i = nI s.2.1 ∧ mi σ 16 i = s.2.2
def StW (σ : Me) (A : List StpT) : Prop := ∀ (i : Nat) (s : StpT), A[i]? = some s → StC σ i s
theorem ix_k : ∀ c, c < 256 → ixL (sb c) [121, 109, 104, 107] 0 = if kdI c = 0 then -1 else nI (kdI c - 1) := by decide +kernel
theorem ix_km : ∀ c, c < 256 → ixL (lk c) [121, 109, 104, 107] 0 = if kdI c = 0 then -1 else nI (kdI c - 1) := by decide +kernel
section PC2
variable {N : Nat} {σ : Me} {T : Tx} {p : Nat}
theorem lt_k {c : Nat} (hc : c < 256) (hN : 300 ≤ N) : fSr_indexOf N 1000023 (UInt32.toInt32 (Int32.toUInt32 (nI c) % 65536)) σ = some (if kdI c = 0 then -1 else nI (kdI c - 1), σ) := by
  rw [ixS (a := 1000023) (n := 4) (L := [121, 109, 104, 107]) (by decide) rfl rfl rfl (by decide) (by decide) hN hc, ix_k c hc]
theorem rq0 (h : Sh σ) : qR σ 8 0 (some 13) = some (some 1) := by simp only [qR, PR h, bnd]
theorem rq1 (h : Sh σ) : qR σ 8 1 (some 13) = some (some 14) := by simp only [qR, PR h, bnd]
theorem rq2 (h : Sh σ) : qR σ 8 2 (some 13) = some (some 15) := by simp only [qR, PR h, bnd]
theorem rq3 (h : Sh σ) : qR σ 8 3 (some 13) = some (some 16) := by simp only [qR, PR h, bnd]
theorem d13 (h : Sh σ) : dr σ (some 13) (.inl 8) = some 13 := (PR h).2.2.2.2.1
theorem ld_14 (h : Sh σ) {i : Nat} (hi : i < 16) : ldI σ (some 14) (nI i) = some (mi σ 14 i) := by rw [ldI_lo _ _ _ (by decide), A14 h i hi, bnd, nI_clamp (by omega)]
theorem ld_15 (h : Sh σ) {i : Nat} (hi : i < 16) : ldI σ (some 15) (nI i) = some (mi σ 15 i) := by rw [ldI_lo _ _ _ (by decide), A15 h i hi, bnd, nI_clamp (by omega)]
theorem st_14 (h : Sh σ) {i : Nat} (hi : i < 16) (x : Int32) : stI σ (some 14) (nI i) x = some (setI σ 14 i x) := by unfold stI; rw [A14 h i hi, bnd, nI_clamp (by omega)]
theorem st_15 (h : Sh σ) {i : Nat} (hi : i < 16) (x : Int32) : stI σ (some 15) (nI i) x = some (setI σ 15 i x) := by unfold stI; rw [A15 h i hi, bnd, nI_clamp (by omega)]
theorem st_16 (h : Sh σ) {i : Nat} (hi : i < 16) (x : Int32) : stI σ (some 16) (nI i) x = some (setI σ 16 i x) := by unfold stI; rw [A16 h i hi, bnd, nI_clamp (by omega)]
theorem rdig_c (h : Sh σ) (hT : txOK T) (ht : TpC σ T) (hp : mi σ 1 2 = nI p) (hpl : p ≤ T.1) (hN : 300 ≤ N) : (isD (chr T (nx T p)) = true → ∃ σ' : Me, fc8_readDigit N 13 σ = some (nI (chr T (nx T p) - 48), σ') ∧ Fr aX σ σ' ∧ mi σ' 1 2 = nI (nx T p + 1)) ∧ (isD (chr T (nx T p)) ≠ true → ∃ σ' : Me, fc8_readDigit N 13 σ = some (-1, σ') ∧ Fr aX σ σ' ∧ mi σ' 1 2 = nI (nx T p)) := by
  obtain ⟨σ1, q1, q2, q3⟩ := next_c (N := N) h hT ht hp hpl hN
  have h1 := q2.sh aX_f h
  rw [fc8_readDigit, rq0 h, bnd, (PR h).1, bnd, q1, bnd, isDig_c (chr_lt hT _), bnd]
  refine ⟨fun e => ?_, fun e => ?_⟩
  · have hd := isD_le e
    rw [if_pos e, if_neg one_z, rq0 h1, bnd, tq2 h1 q3, bnd, tp2 h1, bnd, nI_1, y48, pk_sub (by omega)]
    exact ⟨_, rfl, fr_I rfl q2, mi_eq _ _ _ _⟩
  · rw [if_neg e, if_pos rfl]
    exact ⟨_, rfl, q2, q3⟩
/-- a step that was read, or a fault -/
def ParS (σ : Me) (i : Nat) (x : Ps1) (o : Option (Int32 × Me)) : Prop := match x with
  | .inl f => ∃ σ' : Me, o = some (0, σ') ∧ Fr plX σ σ' ∧ mi σ' 1 2 = nI f
  | .inr z => ∃ σ' : Me, o = some (1, σ') ∧ Fr plX σ σ' ∧ mi σ' 1 2 = nI z.1 ∧ StC σ' i z.2 ∧ ∀ k, k ≠ i → ∀ b, 14 ≤ b → b ≤ 16 → mi σ' b k = mi σ b k
theorem step_rc (h : Sh σ) (hT : txOK T) (ht : TpC σ T) (hp : mi σ 1 2 = nI p) (hpl : p ≤ T.1) (hN : 300 ≤ N) {i : Nat} (hi : i < 16) : ParS σ i (pStp T p) (fc8_readStep N 13 (nI i) σ) := by
  obtain ⟨σ1, q1, q2, q3⟩ := next_c (N := N) h hT ht hp hpl hN
  have h1 := q2.sh aX_f h
  have hb := chr_lt hT (nx T p)
  have hl := nx_le hpl
  have d23 : drS (some 1000023) = some 1000023 := rfl
  rw [fc8_readStep, rq1 h, bnd, rq0 h, bnd, (PR h).1, bnd, q1, bnd, d23, bnd, lt_k hb hN, bnd, st_14 h1 hi, bnd]
  unfold pStp pSt0
  by_cases c0 : kdI (chr T (nx T p)) = 0
  · have h2 : Sh (setI σ1 14 i (-1)) := h1
    rw [if_pos c0, if_pos c0, rq1 h2, bnd, ld_14 h2 hi, bnd, mi_eq, if_neg (show ¬ (0 : Int32) ≤ -1 by decide), retZ0]
    exact ⟨_, rfl, fr_I (by simp [plX]) q2.ap, by rw [mi_ne _ _ (by omega)]; exact q3⟩
  · have h4 := kdI_le (chr T (nx T p))
    have hlt : nx T p < T.1 := chr_in (fun w => c0 (by rw [w]; rfl))
    rw [if_neg c0, if_neg c0]
    generalize hk : kdI (chr T (nx T p)) - 1 = k
    have hk3 : k ≤ 3 := by omega
    have h2 : Sh (setI σ1 14 i (nI k)) := h1
    have e2 : mi (setI σ1 14 i (nI k)) 1 2 = nI (nx T p) := by rw [mi_ne _ _ (by omega)]; exact q3
    have h3 : Sh (setI (setI σ1 14 i (nI k)) 1 2 (nI (nx T p + 1))) := h1
    have t3 : TpC (setI (setI σ1 14 i (nI k)) 1 2 (nI (nx T p + 1))) T := (ht.ax q2).fr (X := plX) (fr_I rfl (fr_I (by simp [plX]) (Fr.rf _ _))) rfl (fun _ => rfl)
    have f3 : Fr plX σ (setI (setI σ1 14 i (nI k)) 1 2 (nI (nx T p + 1))) := fr_I rfl (fr_I (by simp [plX]) q2.ap)
    have k3 : ∀ j, j ≠ i → ∀ b, 14 ≤ b → b ≤ 16 → mi (setI (setI σ1 14 i (nI k)) 1 2 (nI (nx T p + 1))) b j = mi σ b j := fun j hj b hb1 hb2 => by
      rw [mi_ne _ _ (by omega), mi_ne _ _ (by omega)]
      exact q2.i (by simp [aX]; omega)
    have e14 : mi (setI (setI σ1 14 i (nI k)) 1 2 (nI (nx T p + 1))) 14 i = nI k := by rw [mi_ne _ _ (by omega), mi_eq]
    have k0 : (0 : Int32) ≤ nI k := by rw [y0]; exact nI_le (Nat.zero_le _) (by omega)
    rw [rq1 h2, bnd, ld_14 h2 hi, bnd, mi_eq, if_pos k0, rq0 h2, bnd, tq2 h2 e2, bnd, tp2 h2, bnd, nI_1, rq2 h3, bnd, d13 h3, bnd]
    have ep : mi (setI (setI σ1 14 i (nI k)) 1 2 (nI (nx T p + 1))) 1 2 = nI (nx T p + 1) := mi_eq _ _ _ _
    generalize setI (setI σ1 14 i (nI k)) 1 2 (nI (nx T p + 1)) = τ at h3 t3 f3 k3 e14 ep ⊢
    obtain ⟨dy, dn⟩ := rdig_c (N := N) h3 hT t3 ep (by omega) hN
    have hl1 : nx T (nx T p + 1) ≤ T.1 := nx_le (by omega)
    unfold pSt1
    by_cases c1 : isD (chr T (nx T (nx T p + 1))) = true
    · obtain ⟨τ1, u1, u2, u3⟩ := dy c1
      have hd := isD_le c1
      have hlt1 : nx T (nx T p + 1) < T.1 := chr_in (by omega)
      have hs1 := u2.sh aX_f h3
      have tt1 := t3.ax u2
      generalize hde : chr T (nx T (nx T p + 1)) - 48 = d at u1 ⊢
      have hd9 : d ≤ 9 := by omega
      have hs2 : Sh (setI τ1 15 i (nI d)) := hs1
      have hs3 : Sh (setI (setI τ1 15 i (nI d)) 16 i (-1)) := hs1
      have f4 : Fr plX σ (setI (setI τ1 15 i (nI d)) 16 i (-1)) := fr_I (by simp [plX]) (fr_I (by simp [plX]) (f3.tr u2.ap))
      have tt3 : TpC (setI (setI τ1 15 i (nI d)) 16 i (-1)) T := tt1.fr (X := plX) (fr_I (by simp [plX]) (fr_I (by simp [plX]) (Fr.rf _ _))) rfl (fun _ => rfl)
      have k4 : ∀ j, j ≠ i → ∀ b, 14 ≤ b → b ≤ 16 → mi (setI (setI τ1 15 i (nI d)) 16 i (-1)) b j = mi σ b j := fun j hj b hb1 hb2 => by
        rw [mi_ne _ _ (by omega), mi_ne _ _ (by omega), u2.i (by simp [aX]; omega)]
        exact k3 j hj b hb1 hb2
      have g14 : mi (setI (setI τ1 15 i (nI d)) 16 i (-1)) 14 i = nI k := by
        rw [mi_ne _ _ (by omega), mi_ne _ _ (by omega), u2.i (by simp [aX])]; exact e14
      have g15 : mi (setI (setI τ1 15 i (nI d)) 16 i (-1)) 15 i = nI d := by rw [mi_ne _ _ (by omega), mi_eq]
      have g16 : mi (setI (setI τ1 15 i (nI d)) 16 i (-1)) 16 i = -1 := mi_eq _ _ _ _
      have ga : mi (setI (setI τ1 15 i (nI d)) 16 i (-1)) 1 2 = nI (nx T (nx T p + 1) + 1) := by rw [mi_ne _ _ (by omega), mi_ne _ _ (by omega)]; exact u3
      rw [if_pos c1, u1, bnd, st_15 hs1 hi, bnd, rq3 hs2, bnd, st_16 hs2 hi, bnd, rq2 hs3, bnd, ld_15 hs3 hi, bnd, g15, if_neg (nI_m1 (by omega)), rq1 hs3, bnd, ld_14 hs3 hi, bnd, g14]
      generalize setI (setI τ1 15 i (nI d)) 16 i (-1) = ρ at hs3 f4 tt3 k4 g14 g15 g16 ga ⊢
      by_cases c2 : k ≤ 1
      · obtain ⟨ey, en⟩ := rdig_c (N := N) hs3 hT tt3 ga (by omega) hN
        rw [if_pos (show nI k ≤ (1 : Int32) from nI_le c2 (by decide)), if_pos c2, d13 hs3, bnd]
        generalize hq2 : nx T (nx T (nx T p + 1) + 1) = q2' at ey en ⊢
        unfold pSt2
        by_cases c3 : isD (chr T q2') = true
        · obtain ⟨ρ1, v1, v2, v3⟩ := ey c3
          have hd2 := isD_le c3
          have hr1 := v2.sh aX_f hs3
          generalize hee : chr T q2' - 48 = e at v1 ⊢
          have he9 : e ≤ 9 := by omega
          have m14 : mi ρ1 14 i = nI k := by rw [v2.i (by simp [aX])]; exact g14
          have m15 : mi ρ1 15 i = nI d := by rw [v2.i (by simp [aX])]; exact g15
          have m16 : mi ρ1 16 i = -1 := by rw [v2.i (by simp [aX])]; exact g16
          have k5 : ∀ j, j ≠ i → ∀ b, 14 ≤ b → b ≤ 16 → mi ρ1 b j = mi σ b j := fun j hj b hb1 hb2 => by
            rw [v2.i (by simp [aX]; omega)]
            exact k4 j hj b hb1 hb2
          rw [if_pos c3, v1, bnd, rq1 hr1, bnd, ld_14 hr1 hi, bnd, m14]
          by_cases c4 : k = 0
          · have mul : (10 : Int32) * nI d + nI e = nI (10 * d + e) := by rw [y10, pk_mul, nI_add]
            rw [if_pos ((nI_ze (by omega)).mpr c4), rq2 hr1, bnd, bnd, ld_15 hr1 hi, bnd, m15, mul, st_15 hr1 hi, bnd, fc8_readStep_137, if_neg (nI_m1 (by omega)), retZ1]
            refine ⟨_, rfl, fr_I (by simp [plX]) (f4.tr v2.ap), by rw [mi_ne _ _ (by omega)]; exact v3, ?_, fun j hj b hb1 hb2 => by rw [mi_ne _ _ (by omega)]; exact k5 j hj b hb1 hb2⟩
            show StC _ i (if k = 0 then _ else _)
            rw [if_pos c4]
            refine ⟨by rw [mi_ne _ _ (by omega), m14, c4], mi_eq _ _ _ _, by rw [mi_ne _ _ (by omega)]; exact m16⟩
          · rw [if_neg (fun w => c4 ((nI_ze (by omega)).mp w)), rq3 hr1, bnd, st_16 hr1 hi, bnd, fc8_readStep_137, if_neg (nI_m1 (by omega)), retZ1]
            refine ⟨_, rfl, fr_I (by simp [plX]) (f4.tr v2.ap), by rw [mi_ne _ _ (by omega)]; exact v3, ?_, fun j hj b hb1 hb2 => by rw [mi_ne _ _ (by omega)]; exact k5 j hj b hb1 hb2⟩
            show StC _ i (if k = 0 then _ else _)
            rw [if_neg c4]
            refine ⟨by rw [mi_ne _ _ (by omega), m14, show k = 1 by omega], by rw [mi_ne _ _ (by omega)]; exact m15, mi_eq _ _ _ _⟩
        · obtain ⟨ρ1, v1, v2, v3⟩ := en c3
          have hr1 := v2.sh aX_f hs3
          have m14 : mi ρ1 14 i = nI k := by rw [v2.i (by simp [aX])]; exact g14
          rw [if_neg c3, v1, bnd, rq1 hr1, bnd, ld_14 hr1 hi, bnd, m14]
          by_cases c4 : k = 0
          · rw [if_pos ((nI_ze (by omega)).mpr c4), rq2 hr1, bnd, bnd, ld_15 hr1 hi, bnd, st_15 hr1 hi, bnd, fc8_readStep_137, if_pos rfl, retZ0]
            exact ⟨_, rfl, fr_I (by simp [plX]) (f4.tr v2.ap), by rw [mi_ne _ _ (by omega)]; exact v3⟩
          · rw [if_neg (fun w => c4 ((nI_ze (by omega)).mp w)), rq3 hr1, bnd, st_16 hr1 hi, bnd, fc8_readStep_137, if_pos rfl, retZ0]
            exact ⟨_, rfl, fr_I (by simp [plX]) (f4.tr v2.ap), by rw [mi_ne _ _ (by omega)]; exact v3⟩
      · rw [if_neg (show ¬ nI k ≤ (1 : Int32) from nI_ge (show 1 < k by omega) (by omega)), if_neg c2, fc8_readStep_80, rq2 hs3, bnd, ld_15 hs3 hi, bnd, g15, if_neg (nI_m1 (by omega)), retZ1]
        exact ⟨ρ, rfl, f4, ga, ⟨g14, g15, g16⟩, k4⟩
    · obtain ⟨τ1, u1, u2, u3⟩ := dn c1
      have hs1 := u2.sh aX_f h3
      have hs2 : Sh (setI τ1 15 i (-1)) := hs1
      have hs3 : Sh (setI (setI τ1 15 i (-1)) 16 i (-1)) := hs1
      have g15 : mi (setI (setI τ1 15 i (-1)) 16 i (-1)) 15 i = -1 := by rw [mi_ne _ _ (by omega), mi_eq]
      rw [if_neg c1, u1, bnd, st_15 hs1 hi, bnd, rq3 hs2, bnd, st_16 hs2 hi, bnd, rq2 hs3, bnd, ld_15 hs3 hi, bnd, g15, if_pos rfl, fc8_readStep_80, rq2 hs3, bnd, ld_15 hs3 hi, bnd, g15, if_pos rfl, retZ0]
      exact ⟨_, rfl, fr_I (by simp [plX]) (fr_I (by simp [plX]) (f3.tr u2.ap)), by rw [mi_ne _ _ (by omega), mi_ne _ _ (by omega)]; exact u3⟩
/-- a plan that was read, or a fault -/
def ParP (σ : Me) (x : Nat ⊕ List StpT) (o : Option (Int32 × Me)) : Prop := match x with
  | .inl f => ∃ σ' : Me, o = some (0, σ') ∧ Fr plX σ σ' ∧ mi σ' 1 2 = nI f
  | .inr l => ∃ σ' : Me, o = some (1, σ') ∧ Fr plX σ σ' ∧ mi σ' 13 4 = nI l.length ∧ StW σ' l
theorem StW.add {σ σ' : Me} {A : List StpT} {s : StpT} (h : StW σ A) (hs : StC σ' A.length s) (hk : ∀ k, k ≠ A.length → ∀ b, 14 ≤ b → b ≤ 16 → mi σ' b k = mi σ b k) : StW σ' (A ++ [s]) := by
  intro i t e
  by_cases hi : i = A.length
  · subst hi
    rw [List.getElem?_append_right (Nat.le_refl _), Nat.sub_self] at e
    cases e
    exact hs
  · have hi2 : i < A.length := by
      rcases Nat.lt_or_ge i (A ++ [s]).length with q | q
      · rw [List.length_append] at q
        simp only [List.length_cons, List.length_nil] at q
        omega
      · rw [List.getElem?_eq_none q] at e; cases e
    rw [List.getElem?_append_left hi2] at e
    obtain ⟨e1, e2, e3⟩ := h i t e
    exact ⟨by rw [hk i hi 14 (by omega) (by omega)]; exact e1, by rw [hk i hi 15 (by omega) (by omega)]; exact e2, by rw [hk i hi 16 (by omega) (by omega)]; exact e3⟩
theorem StW.ax {σ σ' : Me} {A : List StpT} (h : StW σ A) (f : Fr aX σ σ') : StW σ' A := fun i t e => by
  obtain ⟨e1, e2, e3⟩ := h i t e
  exact ⟨by rw [f.i (by simp [aX])]; exact e1, by rw [f.i (by simp [aX])]; exact e2, by rw [f.i (by simp [aX])]; exact e3⟩
/-- a step and what stands behind it -/
theorem rd32_c (hT : txOK T) (hN : 300 ≤ N) {σ0 : Me} {K : Option Nat → Int32 → Me → Option (Int32 × Me)} {m i : Nat} {A : List StpT} (hi : i + m + 1 = 16) (hA : A.length = i)
    (hK0 : m = 0 → ∀ τ : Me, K (some 13) (nI 16) τ = some (0, τ))
    (hK : ∀ (r : Nat) (s : StpT) (τ : Me), m ≠ 0 → r ≤ T.1 → nx T r = r → Sh τ → TpC τ T → mi τ 1 2 = nI r → StW τ (A ++ [s]) → Fr plX σ0 τ → ParP σ0 (if chr T r = 59 then pPlnL T m (r + 1) (A ++ [s]) else .inl r) (K (some 13) (nI (i + 1)) τ))
    {σ : Me} {p : Nat} (h : Sh σ) (ht : TpC σ T) (hp : mi σ 1 2 = nI p) (hpl : p ≤ T.1) (hW : StW σ A) (f : Fr plX σ0 σ) : ParP σ0 (pPlnL T (m + 1) p A) (fc8_read_32 N K (some 13) (nI i) σ) := by
  have hx := step_rc (N := N) h hT ht hp hpl hN (i := i) (by omega)
  have hg := pStp_gd hpl
  rw [fc8_read_32, d13 h, bnd]
  unfold pPlnL
  generalize pStp T p = x at hx hg ⊢
  rcases x with c | ⟨r, s⟩
  · obtain ⟨σ1, y1, y2, y3⟩ := hx
    rw [y1, bnd, if_pos rfl, retZ0]
    exact ⟨σ1, rfl, f.tr y2, y3⟩
  · obtain ⟨σ1, y1, y2, y3, y4, y5⟩ := hx
    obtain ⟨g1, g2⟩ := hg
    simp only at g1 g2 y3 y4 ⊢
    have h1 := y2.sh plX_f h
    have t1 := ht.fr y2 rfl (fun _ => rfl)
    have hb := chr_lt hT (nx T r)
    have hW1 : StW σ1 (A ++ [s]) := hW.add (by rw [hA]; exact y4) (by rw [hA]; exact y5)
    obtain ⟨σ2, n1, n2, n3⟩ := next_c (N := N) h1 hT t1 y3 g1 hN
    have h2 := n2.sh aX_f h1
    have f2 : Fr plX σ0 σ2 := f.tr (y2.tr n2.ap)
    rw [y1, bnd, if_neg one_z, rq0 h1, bnd, (PR h1).1, bnd, n1, bnd]
    by_cases c0 : chr T (nx T r) = 0
    · have p4 : pI σ2 8 4 (some 13) (nI i + (1 : Int32)) = some (setI σ2 13 4 (nI (i + 1))) := by simp only [pI, d13 h2, bnd, nI_1]
      rw [if_pos c0, if_pos ((nI_ze (by omega)).mpr c0), p4, bnd, retZ1]
      refine ⟨_, rfl, fr_I rfl f2, ?_, ?_⟩
      · rw [mi_eq, List.length_append, hA]; rfl
      · intro j t e
        obtain ⟨e1, e2, e3⟩ := hW1.ax n2 j t e
        exact ⟨by rw [mi_ne _ _ (by omega)]; exact e1, by rw [mi_ne _ _ (by omega)]; exact e2, by rw [mi_ne _ _ (by omega)]; exact e3⟩
    · rw [if_neg c0, if_neg (fun w => c0 ((nI_ze (by omega)).mp w)), nI_1]
      by_cases cm : m = 0
      · rw [if_pos cm, show i + 1 = 16 by omega, hK0 cm]
        exact ⟨σ2, rfl, f2, n3⟩
      · rw [if_neg cm]
        exact hK (nx T r) s σ2 cm (nx_le g1) (nx_nx T r) h2 (t1.ax n2) n3 (hW1.ax n2) f2
theorem rd10_c (hT : txOK T) (hN : 300 ≤ N) {σ0 : Me} : ∀ (m i r fu : Nat) (A : List StpT) (σ : Me), i + m + 1 = 16 → m + 1 < fu → 0 < i → A.length = i → r ≤ T.1 → nx T r = r → Sh σ → TpC σ T → mi σ 1 2 = nI r → StW σ A → Fr plX σ0 σ → ParP σ0 (if chr T r = 59 then pPlnL T (m + 1) (r + 1) A else .inl r) (fc8_read_10 N fu (some 13) (nI i) σ)
  | _, _, _, 0, _, _, _, h0, _, _, _, _, _, _, _, _, _ => absurd h0 (Nat.not_lt_zero _)
  | m, i, r, fu + 1, A, σ, hi, h0, hi0, hA, hr, hn, h, ht, hp, hW, f => by
    obtain ⟨t1, t2⟩ := take_cc (N := N) (c := 59) h hT ht hp hr hN (by decide)
    rw [hn] at t1 t2
    have i0 : ¬ nI i ≤ (0 : Int32) := by rw [y0]; exact nI_ge (by omega) (by omega)
    rw [fc8_read_10, y16, if_neg (nI_ge (by omega) (by decide)), if_neg i0, rq0 h, bnd, (PR h).1, bnd, y59]
    by_cases c : chr T r = 59
    · obtain ⟨σ1, w1, w2, w3⟩ := t1 c
      have hlt : r < T.1 := chr_in (by omega)
      rw [if_pos c, w1, bnd, if_neg one_z]
      refine rd32_c hT hN hi hA (fun hm τ => ?_) (fun r' s τ hm hr' hn' h' ht' hp' hW' f' => ?_) (w2.sh aX_f h) (ht.ax w2) w3 (by omega) (hW.ax w2) (f.tr w2.ap)
      · obtain ⟨fu', rfl⟩ : ∃ fu', fu = fu' + 1 := ⟨fu - 1, by omega⟩
        rw [fc8_read_10, y16, if_pos (nI_le (Nat.le_refl _) (by decide)), retZ0]
      · obtain ⟨m', rfl⟩ : ∃ m', m = m' + 1 := ⟨m - 1, by omega⟩
        exact rd10_c hT hN m' (i + 1) r' fu (A ++ [s]) τ (by omega) (by omega) (by omega) (by rw [List.length_append, hA]; rfl) hr' hn' h' ht' hp' hW' f'
    · obtain ⟨σ1, w1, w2, w3⟩ := t2 c
      rw [if_neg c, w1, bnd, if_pos rfl, retZ0]
      exact ⟨σ1, rfl, f.tr w2.ap, w3⟩
theorem readP_c (h : Sh σ) (hT : txOK T) (ht : TpC σ T) (hN : 300 ≤ N) : ParP σ (pPlan T) (fc8_read N 13 σ) := by
  have f : Fr plX σ (setI σ 1 2 (nI 0)) := fr_I rfl (Fr.rf _ _)
  obtain ⟨N', rfl⟩ : ∃ N', N = N' + 1 := ⟨N - 1, by omega⟩
  rw [fc8_read, rq0 h, bnd, y0, tp2 h, bnd, fc8_read_10, y16, if_neg (nI_ge (by decide) (by decide)), y0, if_pos (nI_le (Nat.le_refl _) (by decide))]
  refine rd32_c (i := 0) (m := 15) hT hN rfl rfl (fun hm => by cases hm) (fun r' s τ hm hr' hn' h' ht' hp' hW' f' => ?_) (f.sh plX_f h) (ht.fr f rfl (fun _ => rfl)) (mi_eq _ _ _ _) (Nat.zero_le _) (fun i s e => by cases e) f
  exact rd10_c hT hN 14 1 r' N' _ τ rfl (by omega) (by omega) rfl hr' hn' h' ht' hp' hW' f'
end PC2
