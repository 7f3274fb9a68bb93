/-! the reference reads a plan -/
theorem Cx.gen {X : Nat → Nat → Bool} {B : Prop} {L : Nat → Int32} {a b : Nat} {T : Tx} {σ σ' : Me} (h : Cx B L a b T σ) (f : Fr X σ σ') (hX : Sf X) (h5 : X 60 5 = false ∧ X 60 8 = false ∧ X 60 9 = false) (h6 : ∀ j, X 61 j = false ∧ X 62 j = false ∧ X 64 j = false) : Cx B L a b T σ' := by
  obtain ⟨h1, ⟨k2, k3, k4, k5, k6⟩, h7⟩ := h
  refine ⟨f.sh hX h1, ⟨by rw [f.r h5.1]; exact k2, by rw [f.i h5.2.1]; exact k3, by rw [f.i h5.2.2]; exact k4, fun i hi => ?_, k6⟩, fun hB c hc => by rw [f.i (h6 _).2.2]; exact h7 hB c hc⟩
  rw [f.i]
  · exact k5 i hi
  · rcases k6 with ⟨rfl, -⟩ | ⟨rfl, -⟩
    · exact (h6 _).1
    · exact (h6 _).2.1
def msX : Nat → Nat → Bool := fun a j => (a == 60 && (j == 10 || j == 11 || j == 12)) || (a == 69 && decide (192 ≤ j)) || (a == 70 && j == 4)
theorem msX_f : Sf msX := by
  have h : ∀ q ∈ rfL, msX q.1.1 q.1.2 = false := by decide +kernel
  exact h
theorem Fr.ms {σ σ' : Me} (h : Fr paX σ σ') : Fr msX σ σ' := h.mono (fun a j e => by
  simp only [msX, Bool.or_eq_false_iff] at e
  exact e.1.1)
theorem Cx.ms {B : Prop} {L : Nat → Int32} {a b : Nat} {T : Tx} {σ σ' : Me} (h : Cx B L a b T σ) (f : Fr msX σ σ') : Cx B L a b T σ' := h.gen f msX_f ⟨rfl, rfl, rfl⟩ (fun _ => ⟨rfl, rfl, rfl⟩)
def StM (σ : Me) (n : Nat) (s : StpT) : Prop := mi σ 69 (192 + 3 * n) = nI s.1 ∧ mi σ 69 (192 + 3 * n + 1) = nI s.2.1 ∧ mi σ 69 (192 + 3 * n + 2) = s.2.2
def StV (σ : Me) (A : List StpT) : Prop := ∀ (i : Nat) (s : StpT), A[i]? = some s → StM σ i s
section MPL
variable {N : Nat} {B : Prop} {L : Nat → Int32} {a b : Nat} {T : Tx} {σ : Me} {p g : Nat}
theorem digit_m (h : Ps B L a b T σ p g) (hT : txOK T) (hN : 300 ≤ N) : (isD (chr T (nx T p)) = true → ∃ σ' : Me, fc12_digit N 60 σ = some (nI (chr T (nx T p) - 48), σ') ∧ Fr paX σ σ' ∧ Ps B L a b T σ' (nx T p + 1) g) ∧ (isD (chr T (nx T p)) ≠ true → ∃ σ' : Me, fc12_digit N 60 σ = some (0, σ') ∧ Fr paX σ σ' ∧ mi σ' 60 11 = nI (nx T p)) := by
  obtain ⟨σ1, q1, q2, q3⟩ := look_m (N := N) h hT hN
  rw [fc12_digit, d60 h.1.1, bnd, q1, bnd, d60 q3.1.1, bnd, isDigit_m q3.1 hT q3.2.1 q3.2.2.2.2, bnd]
  refine ⟨fun e => ?_, fun e => ?_⟩
  · have hd := isD_le e
    obtain ⟨s1, s2, s3, s4⟩ := q3.step (chr_in (by omega))
    have el : lk (chr T (nx T p)) - (48 : Int32) = nI (chr T (nx T p) - 48) := by
      unfold lk
      rw [if_neg (by omega), y48, pk_sub (by omega)]
    rw [if_pos e, if_neg one_z, s1, bnd, s2, bnd, el]
    exact ⟨_, rfl, q2.tr s3, s4⟩
  · rw [if_neg e, if_pos rfl, d60 q3.1.1, bnd, (fails_m (N := N) q3).1, bnd]
    exact ⟨_, rfl, q2.tr (fails_m (N := N) q3).2.1, (fails_m (N := N) q3).2.2⟩
theorem q22 (h : Sh σ) : qR σ 12 22 (some 60) = some (some 69) := by simp only [qR, PN h, bnd]
theorem q23 (h : Sh σ) : qR σ 12 23 (some 60) = some (some 70) := by simp only [qR, PN h, bnd]
theorem st_69 (h : Sh σ) {i : Nat} (hi : i < 240) (x : Int32) : stI σ (some 69) (nI i) x = some (setI σ 69 i x) := by unfold stI; rw [A69 h i hi, bnd, nI_clamp (by omega)]
theorem ld_69 (h : Sh σ) {i : Nat} (hi : i < 240) : ldI σ (some 69) (nI i) = some (mi σ 69 i) := by rw [ldI_lo _ _ _ (by decide), A69 h i hi, bnd, nI_clamp (by omega)]
theorem Ps.s69 (h : Ps B L a b T σ p g) {i : Nat} (hi : 192 ≤ i) (x : Int32) : Ps B L a b T (setI σ 69 i x) p g := by
  have f : Fr msX σ (setI σ 69 i x) := fr_I (by simp [msX]; omega) (Fr.rf _ _)
  exact ⟨h.1.ms f, by rw [mi_ne _ _ (by omega)]; exact h.2.1, by rw [mi_ne _ _ (by omega)]; exact h.2.2.1, by rw [mi_ne _ _ (by omega)]; exact h.2.2.2.1, h.2.2.2.2⟩
def ParSM (B : Prop) (L : Nat → Int32) (a b : Nat) (T : Tx) (σ : Me) (g n : Nat) (x : Ps1) (o : Option (Unit × Me)) : Prop := match x with
  | .inl f => ∃ σ' : Me, o = some ((), σ') ∧ Fr msX σ σ' ∧ mi σ' 60 11 = nI f
  | .inr z => ∃ σ' : Me, o = some ((), σ') ∧ Fr msX σ σ' ∧ Ps B L a b T σ' z.1 g ∧ StM σ' n z.2 ∧ ∀ k, k < 192 + 3 * n → mi σ' 69 k = mi σ 69 k
theorem step_rm (h : Ps B L a b T σ p g) (hT : txOK T) (hN : 300 ≤ N) {n : Nat} (hn : n < 16) : ParSM B L a b T σ g n (pStp T p) (fc12_readStep N 60 (nI (192 + 3 * n)) σ) := by
  obtain ⟨σ1, q1, q2, q3⟩ := look_m (N := N) h hT hN
  have hb := chr_lt hT (nx T p)
  rw [fc12_readStep, d60 h.1.1, bnd, q1, bnd, spot_m w_m rfl (by decide) hN, bnd, ix_km _ hb]
  unfold pStp pSt0
  by_cases c0 : kdI (chr T (nx T p)) = 0
  · rw [if_pos c0, if_pos c0, if_pos rfl, d60 q3.1.1, bnd, (fails_m (N := N) q3).1, bnd]
    exact ⟨_, rfl, (q2.tr (fails_m (N := N) q3).2.1).ms, (fails_m (N := N) q3).2.2⟩
  · have h4 := kdI_le (chr T (nx T p))
    have hlt : nx T p < T.1 := chr_in (fun w => c0 (by rw [w]; rfl))
    rw [if_neg c0, if_neg c0]
    generalize hk : kdI (chr T (nx T p)) - 1 = k
    have hk3 : k ≤ 3 := by omega
    obtain ⟨s1, s2, s3, s4⟩ := q3.step hlt
    have P2 : Ps B L a b T (setI (setI σ1 60 10 (nI (nx T p + 1))) 69 (192 + 3 * n) (nI k)) (nx T p + 1) g := s4.s69 (by omega) _
    have f2 : Fr msX σ (setI (setI σ1 60 10 (nI (nx T p + 1))) 69 (192 + 3 * n) (nI k)) := fr_I (by simp [msX]) (q2.tr s3).ms
    have g0 : mi (setI (setI σ1 60 10 (nI (nx T p + 1))) 69 (192 + 3 * n) (nI k)) 69 (192 + 3 * n) = nI k := mi_eq _ _ _ _
    have k2 : ∀ j, j < 192 + 3 * n → mi (setI (setI σ1 60 10 (nI (nx T p + 1))) 69 (192 + 3 * n) (nI k)) 69 j = mi σ 69 j := fun j hj => by
      rw [mi_ne _ _ (by omega), mi_ne _ _ (by omega)]; exact q2.i rfl
    rw [if_neg (nI_m1 (by omega)), s1, bnd, s2, bnd, q22 s4.1.1, bnd, st_69 s4.1.1 (by omega), bnd, q22 P2.1.1, bnd, d60 P2.1.1, bnd]
    generalize setI (setI σ1 60 10 (nI (nx T p + 1))) 69 (192 + 3 * n) (nI k) = τ at P2 f2 g0 k2 ⊢
    obtain ⟨dy, dn⟩ := digit_m (N := N) P2 hT hN
    have a1 : nI (192 + 3 * n) + (1 : Int32) = nI (192 + 3 * n + 1) := nI_1 _
    have a2 : nI (192 + 3 * n) + (2 : Int32) = nI (192 + 3 * n + 2) := by rw [y2, nI_add]
    unfold pSt1
    by_cases c1 : isD (chr T (nx T (nx T p + 1))) = true
    · obtain ⟨τ1, u1, u2, u3⟩ := dy c1
      have hd := isD_le c1
      generalize hde : chr T (nx T (nx T p + 1)) - 48 = d at u1 ⊢
      have hd9 : d ≤ 9 := by omega
      have P3 := u3.s69 (i := 192 + 3 * n + 1) (by omega) (nI d)
      have P4 := P3.s69 (i := 192 + 3 * n + 2) (by omega) (-1)
      have f4 : Fr msX σ (setI (setI τ1 69 (192 + 3 * n + 1) (nI d)) 69 (192 + 3 * n + 2) (-1)) := fr_I (by simp [msX]; omega) (fr_I (by simp [msX]; omega) (f2.tr u2.ms))
      have r0 : mi (setI (setI τ1 69 (192 + 3 * n + 1) (nI d)) 69 (192 + 3 * n + 2) (-1)) 69 (192 + 3 * n) = nI k := by
        rw [mi_ne _ _ (by omega), mi_ne _ _ (by omega), u2.i rfl]; exact g0
      have r1 : mi (setI (setI τ1 69 (192 + 3 * n + 1) (nI d)) 69 (192 + 3 * n + 2) (-1)) 69 (192 + 3 * n + 1) = nI d := by rw [mi_ne _ _ (by omega), mi_eq]
      have r2 : mi (setI (setI τ1 69 (192 + 3 * n + 1) (nI d)) 69 (192 + 3 * n + 2) (-1)) 69 (192 + 3 * n + 2) = -1 := mi_eq _ _ _ _
      have k4 : ∀ j, j < 192 + 3 * n → mi (setI (setI τ1 69 (192 + 3 * n + 1) (nI d)) 69 (192 + 3 * n + 2) (-1)) 69 j = mi σ 69 j := fun j hj => by
        rw [mi_ne _ _ (by omega), mi_ne _ _ (by omega), u2.i rfl]; exact k2 j hj
      rw [if_pos c1, u1, bnd, a1, st_69 u3.1.1 (by omega), bnd, q22 P3.1.1, bnd, a2, st_69 P3.1.1 (by omega), bnd, mq P4.1.1 P4.2.2.1, bnd, if_pos rfl]
      generalize setI (setI τ1 69 (192 + 3 * n + 1) (nI d)) 69 (192 + 3 * n + 2) (-1) = ρ at P4 f4 r0 r1 r2 k4 ⊢
      by_cases c2 : k ≤ 1
      · obtain ⟨ey, en⟩ := digit_m (N := N) P4 hT hN
        rw [if_pos (show nI k ≤ (1 : Int32) from nI_le c2 (by decide)), if_pos c2, d60 P4.1.1, bnd]
        generalize hq2 : nx T (nx T (nx T p + 1) + 1) = q2' at ey en ⊢
        unfold pSt2
        by_cases c3 : isD (chr T q2') = true
        · obtain ⟨ρ1, v1, v2, v3⟩ := ey c3
          have hd2 := isD_le c3
          generalize hee : chr T q2' - 48 = e at v1 ⊢
          have he9 : e ≤ 9 := by omega
          have m0 : mi ρ1 69 (192 + 3 * n) = nI k := by rw [v2.i rfl]; exact r0
          have m1 : mi ρ1 69 (192 + 3 * n + 1) = nI d := by rw [v2.i rfl]; exact r1
          have m2 : mi ρ1 69 (192 + 3 * n + 2) = -1 := by rw [v2.i rfl]; exact r2
          have k5 : ∀ j, j < 192 + 3 * n → mi ρ1 69 j = mi σ 69 j := fun j hj => by rw [v2.i rfl]; exact k4 j hj
          rw [if_pos c3, v1, bnd]
          by_cases c4 : k = 0
          · have mul : (10 : Int32) * nI d + nI e = nI (10 * d + e) := by rw [y10, pk_mul, nI_add]
            rw [if_pos ((nI_ze (by omega)).mpr c4), q22 v3.1.1, bnd, bnd, ld_69 v3.1.1 (by omega), bnd, m1, mul, st_69 v3.1.1 (by omega), bnd]
            refine ⟨_, rfl, fr_I (by simp [msX]; omega) (f4.tr v2.ms), v3.s69 (by omega) _, ?_, fun j hj => by rw [mi_ne _ _ (by omega)]; exact k5 j hj⟩
            show StM _ n (if k = 0 then _ else _)
            rw [if_pos c4]
            exact ⟨by rw [mi_ne _ _ (by omega), m0, c4], mi_eq _ _ _ _, by rw [mi_ne _ _ (by omega)]; exact m2⟩
          · rw [if_neg (fun w => c4 ((nI_ze (by omega)).mp w)), q22 v3.1.1, bnd, st_69 v3.1.1 (by omega), bnd]
            refine ⟨_, rfl, fr_I (by simp [msX]; omega) (f4.tr v2.ms), v3.s69 (by omega) _, ?_, fun j hj => by rw [mi_ne _ _ (by omega)]; exact k5 j hj⟩
            show StM _ n (if k = 0 then _ else _)
            rw [if_neg c4]
            exact ⟨by rw [mi_ne _ _ (by omega), m0, show k = 1 by omega], by rw [mi_ne _ _ (by omega)]; exact m1, mi_eq _ _ _ _⟩
        · obtain ⟨ρ1, v1, v2, v3⟩ := en c3
          have hr1 := (P4.1.fr v2).1
          rw [if_neg c3, v1, bnd]
          by_cases c4 : k = 0
          · rw [if_pos ((nI_ze (by omega)).mpr c4), q22 hr1, bnd, bnd, ld_69 hr1 (by omega), bnd, st_69 hr1 (by omega), bnd]
            exact ⟨_, rfl, fr_I (by simp [msX]; omega) (f4.tr v2.ms), by rw [mi_ne _ _ (by omega)]; exact v3⟩
          · rw [if_neg (fun w => c4 ((nI_ze (by omega)).mp w)), q22 hr1, bnd, st_69 hr1 (by omega), bnd]
            exact ⟨_, rfl, fr_I (by simp [msX]; omega) (f4.tr v2.ms), by rw [mi_ne _ _ (by omega)]; exact v3⟩
      · rw [if_neg (show ¬ nI k ≤ (1 : Int32) from nI_ge (show 1 < k by omega) (by omega)), if_neg c2]
        exact ⟨ρ, rfl, f4, P4, ⟨r0, r1, r2⟩, k4⟩
    · obtain ⟨τ1, u1, u2, u3⟩ := dn c1
      have hs1 := (P2.1.fr u2).1
      have hs2 : Sh (setI τ1 69 (192 + 3 * n + 1) 0) := hs1
      have hs3 : Sh (setI (setI τ1 69 (192 + 3 * n + 1) 0) 69 (192 + 3 * n + 2) (-1)) := hs1
      have e11 : mi (setI (setI τ1 69 (192 + 3 * n + 1) 0) 69 (192 + 3 * n + 2) (-1)) 60 11 = nI (nx T (nx T p + 1)) := by rw [mi_ne _ _ (by omega), mi_ne _ _ (by omega)]; exact u3
      have hle : nx T (nx T p + 1) ≤ T.1 := nx_le (by omega)
      have h240 := hT.1
      rw [if_neg c1, u1, bnd, a1, st_69 hs1 (by omega), bnd, q22 hs2, bnd, a2, st_69 hs2 (by omega), bnd, mq hs3 e11, bnd, if_neg (nI_m1 (by omega))]
      exact ⟨_, rfl, fr_I (by simp [msX]; omega) (fr_I (by simp [msX]; omega) (f2.tr u2.ms)), e11⟩
theorem StV.add {σ σ' : Me} {A : List StpT} {s : StpT} (h : StV σ A) (hs : StM σ' A.length s) (hk : ∀ k, k < 192 + 3 * A.length → mi σ' 69 k = mi σ 69 k) : StV σ' (A ++ [s]) := by
  intro i t e
  by_cases hi : i = A.length
  · subst hi
    rw [List.getElem?_append_right (Nat.le_refl _), Nat.sub_self] at e
    cases e
    exact hs
  · have hi2 : i < A.length := by
      rcases Nat.lt_or_ge i (A ++ [s]).length with q | q
      · rw [List.length_append] at q
        simp only [List.length_cons, List.length_nil] at q
        omega
      · rw [List.getElem?_eq_none q] at e; cases e
    rw [List.getElem?_append_left hi2] at e
    obtain ⟨e1, e2, e3⟩ := h i t e
    exact ⟨by rw [hk _ (by omega)]; exact e1, by rw [hk _ (by omega)]; exact e2, by rw [hk _ (by omega)]; exact e3⟩
theorem StV.pa {σ σ' : Me} {A : List StpT} (h : StV σ A) (f : Fr paX σ σ') : StV σ' A := fun i t e => by
  obtain ⟨e1, e2, e3⟩ := h i t e
  exact ⟨by rw [f.i rfl]; exact e1, by rw [f.i rfl]; exact e2, by rw [f.i rfl]; exact e3⟩
def ParQ (σ : Me) (x : Nat ⊕ List StpT) (o : Option (Unit × Me)) : Prop := match x with
  | .inl f => ∃ σ' : Me, o = some ((), σ') ∧ Fr msX σ σ' ∧ mi σ' 60 11 = nI f
  | .inr l => ∃ σ' : Me, o = some ((), σ') ∧ Fr msX σ σ' ∧ mi σ' 60 11 = -1 ∧ mi σ' 70 4 = nI l.length ∧ StV σ' l
/-- the end of the steps -/
theorem rp0_m (h : Ps B L a b T σ p g) (hT : txOK T) (hN : 300 ≤ N) {n fu : Nat} (hn : n < 100) : (chr T (nx T p) = 0 → ∃ σ' : Me, fc12_readPlan_17 N (fu + 1) (some 60) (nI n) (0 : Int32) σ = some ((), σ') ∧ Fr paX (setI σ 70 4 (nI n)) σ' ∧ mi σ' 60 11 = -1) ∧ (chr T (nx T p) ≠ 0 → ∃ σ' : Me, fc12_readPlan_17 N (fu + 1) (some 60) (nI n) (0 : Int32) σ = some ((), σ') ∧ Fr paX (setI σ 70 4 (nI n)) σ' ∧ mi σ' 60 11 = nI (nx T p)) := by
  have st70 : stI σ (some 70) (4 : Int32) (nI n) = some (setI σ 70 4 (nI n)) := by
    unfold stI
    rw [y4, A70 h.1.1 4 (by decide), bnd, nI_clamp (by decide)]
  have f : Fr msX σ (setI σ 70 4 (nI n)) := fr_I rfl (Fr.rf _ _)
  have P1 : Ps B L a b T (setI σ 70 4 (nI n)) p g := ⟨h.1.ms f, by rw [mi_ne _ _ (by omega)]; exact h.2.1, by rw [mi_ne _ _ (by omega)]; exact h.2.2.1, by rw [mi_ne _ _ (by omega)]; exact h.2.2.2.1, h.2.2.2.2⟩
  obtain ⟨σ1, q1, q2, q3⟩ := look_m (N := N) P1 hT hN
  have hb := chr_lt hT (nx T p)
  rw [fc12_readPlan_17, if_pos rfl, q23 h.1.1, bnd, st70, bnd, d60 P1.1.1, bnd, q1, bnd]
  refine ⟨fun e => ?_, fun e => ?_⟩
  · rw [if_pos ((lk_m1 hb).mpr e)]
    exact ⟨σ1, rfl, q2, q3.2.2.1⟩
  · rw [if_neg (fun w => e ((lk_m1 hb).mp w)), d60 q3.1.1, bnd, (fails_m (N := N) q3).1, bnd]
    exact ⟨_, rfl, q2.tr (fails_m (N := N) q3).2.1, (fails_m (N := N) q3).2.2⟩
theorem rp17_m (hT : txOK T) (hN : 300 ≤ N) {σ0 : Me} : ∀ (m n p fu : Nat) (A : List StpT) (σ : Me), n + m + 1 = 16 → m + 2 < fu → A.length = n → Ps B L a b T σ p g → StV σ A → Fr msX σ0 σ → ParQ σ0 (pPlnL T (m + 1) p A) (fc12_readPlan_17 N fu (some 60) (nI n) (1 : Int32) σ)
  | _, _, _, 0, _, _, _, h0, _, _, _, _ => absurd h0 (Nat.not_lt_zero _)
  | m, n, p, fu + 1, A, σ, hn, h0, hA, h, hV, f => by
    have h2 := hT.1
    have hx := step_rm (N := N) h hT hN (n := n) (by omega)
    have hg := pStp_gd h.2.2.2.2
    have row : (3 : Int32) * ((64 : Int32) + nI n) = nI (192 + 3 * n) := by
      rw [zl_of (x := (64 : Int32)) (k := 64) rfl, nI_add, y3, pk_mul]
      congr 1
      omega
    rw [fc12_readPlan_17, if_neg one_z, d60 h.1.1, bnd, row]
    unfold pPlnL
    generalize pStp T p = x at hx hg ⊢
    rcases x with c | ⟨r, s⟩
    · obtain ⟨σ1, y1, y2, y3⟩ := hx
      have hc : c ≤ T.1 := hg
      have hs1 := (h.1.ms y2).1
      rw [y1, bnd, mq hs1 y3, bnd, if_neg (nI_m1 (by omega))]
      exact ⟨σ1, rfl, f.tr y2, y3⟩
    · obtain ⟨σ1, y1, y2, y3, y4, y5⟩ := hx
      obtain ⟨g1, g2⟩ := hg
      simp only at g1 g2 y3 y4 ⊢
      have hV1 : StV σ1 (A ++ [s]) := hV.add (by rw [hA]; exact y4) (by rw [hA]; exact y5)
      obtain ⟨σ2, n1, n2, n3⟩ := look_m (N := N) y3 hT hN
      have hb := chr_lt hT (nx T r)
      have f2 : Fr msX σ0 σ2 := f.tr (y2.tr n2.ms)
      obtain ⟨fu', rfl⟩ : ∃ fu', fu = fu' + 1 := ⟨fu - 1, by omega⟩
      obtain ⟨z1, z2⟩ := rp0_m (N := N) (fu := fu') n3 hT hN (n := n + 1) (by omega)
      rw [nx_nx] at z1 z2
      rw [y1, bnd, mq y3.1.1 y3.2.2.1, bnd, if_pos rfl, d60 y3.1.1, bnd, n1, bnd, nI_1]
      have f70 : Fr msX σ0 (setI σ2 70 4 (nI (n + 1))) := fr_I rfl f2
      by_cases c0 : chr T (nx T r) = 0
      · obtain ⟨σ3, w1, w2, w3⟩ := z1 c0
        rw [if_pos c0, if_neg (fun w => by have := (lkI y59 hb (by decide) (by decide)).mp w; omega), fc12_readPlan_57, if_pos rfl, fc12_readPlan_74, if_pos rfl, w1]
        refine ⟨σ3, rfl, f70.tr w2.ms, w3, ?_, ?_⟩
        · rw [w2.i rfl, mi_eq, List.length_append, hA]; rfl
        · refine StV.pa (σ := setI σ2 70 4 (nI (n + 1))) ?_ w2
          intro i t e
          obtain ⟨e1, e2, e3⟩ := hV1.pa n2 i t e
          exact ⟨by rw [mi_ne _ _ (by omega)]; exact e1, by rw [mi_ne _ _ (by omega)]; exact e2, by rw [mi_ne _ _ (by omega)]; exact e3⟩
      · rw [if_neg c0]
        by_cases c1 : chr T (nx T r) = 59
        · rw [if_pos ((lkI y59 hb (by decide) (by decide)).mpr c1), fc12_readPlan_57, if_neg one_z]
          by_cases cm : m = 0
          · rw [if_pos cm, if_pos (show nI (n + 1) = (16 : Int32) by rw [show n + 1 = 16 by omega]; rfl), d60 n3.1.1, bnd, (fails_m (N := N) n3).1, bnd]
            exact ⟨_, rfl, f2.tr (fails_m (N := N) n3).2.1.ms, (fails_m (N := N) n3).2.2⟩
          · have n16 : ¬ nI (n + 1) = (16 : Int32) := fun w => by have := (nI_eq (b := 16) (by omega) (by decide)).mp w; omega
            obtain ⟨s1, s2, s3, s4⟩ := n3.step (chr_in c0)
            obtain ⟨m', rfl⟩ : ∃ m', m = m' + 1 := ⟨m - 1, by omega⟩
            rw [if_neg cm, if_pos c1, if_neg n16, fc12_readPlan_74, if_neg one_z, s1, bnd, s2, bnd]
            exact rp17_m hT hN m' (n + 1) (nx T r + 1) (fu' + 1) (A ++ [s]) _ (by omega) (by omega) (by rw [List.length_append, hA]; rfl) s4 ((hV1.pa n2).pa s3) (f2.tr s3.ms)
        · obtain ⟨σ3, w1, w2, w3⟩ := z2 c0
          rw [if_neg (fun w => c1 ((lkI y59 hb (by decide) (by decide)).mp w)), fc12_readPlan_57, if_pos rfl, fc12_readPlan_74, if_pos rfl, w1]
          have e : (if m = 0 then (Sum.inl (nx T r) : Nat ⊕ List StpT) else if chr T (nx T r) = 59 then pPlnL T m (nx T r + 1) (A ++ [s]) else .inl (nx T r)) = .inl (nx T r) := by
            by_cases cm : m = 0
            · rw [if_pos cm]
            · rw [if_neg cm, if_neg c1]
          rw [e]
          exact ⟨σ3, rfl, f70.tr w2.ms, w3⟩
/-- a reading of the tape begins -/
def tsX : Nat → Nat → Bool := fun a j => a == 60 && (j == 5 || (decide (8 ≤ j) && decide (j ≤ 11)))
theorem tsX_f : Sf tsX := by
  have h : ∀ q ∈ rfL, tsX q.1.1 q.1.2 = false := by decide +kernel
  exact h
theorem starts_m (h : Sh σ) (ht : TpM σ T) {d : Nat} (hd : mi σ 60 12 = nI d) : ∃ σ' : Me, fc12_starts N 60 (some 61) (0 : Int32) (nI T.1) σ = some ((), σ') ∧ Fr tsX σ σ' ∧ Ps False (fun _ => 0) 61 0 T σ' 0 d := by
  have q5 : pR σ 12 5 (some 60) (some 61) = some (setR σ 60 5 (some 61)) := by simp only [pR, PN h, bnd]
  have f5 : Fr tsX σ (setR σ 60 5 (some 61)) := (Fr.rf _ _).setR _ rfl
  have hs5 := f5.sh tsX_f h
  have f : Fr tsX σ (setI (setI (setI (setI (setR σ 60 5 (some 61)) 60 8 (nI 0)) 60 9 (nI T.1)) 60 10 (nI 0)) 60 11 (-1)) := fr_I rfl (fr_I rfl (fr_I rfl (fr_I rfl f5)))
  refine ⟨_, ?_, f, ⟨f.sh tsX_f h, ⟨?_, ?_, ?_, fun i hi => ?_, .inl ⟨rfl, rfl⟩⟩, fun hB => hB.elim⟩, ?_, mi_eq _ _ _ _, ?_, Nat.zero_le _⟩
  · rw [fc12_starts, q5, bnd, y0, mp hs5, bnd, mp (show Sh (setI (setR σ 60 5 (some 61)) 60 8 (nI 0)) from hs5), bnd, mp (show Sh (setI (setI (setR σ 60 5 (some 61)) 60 8 (nI 0)) 60 9 (nI T.1)) from hs5), bnd, mp (show Sh (setI (setI (setI (setR σ 60 5 (some 61)) 60 8 (nI 0)) 60 9 (nI T.1)) 60 10 (nI 0)) from hs5), bnd]
  · simp only [mr_setI, mr_eq]
  · simp (disch := omega) only [mi_ne, mi_eq]
  · simp (disch := omega) only [mi_ne, mi_eq]
  · rw [f.i rfl, Nat.zero_add]; exact ht.2 i hi
  · simp (disch := omega) only [mi_ne, mi_eq]
  · rw [f.i rfl]; exact hd
def mpX : Nat → Nat → Bool := fun a j => (a == 60 && (j == 5 || (decide (8 ≤ j) && decide (j ≤ 12)))) || (a == 69 && decide (192 ≤ j)) || (a == 70 && j == 4)
def ParQ2 (σ : Me) (x : Nat ⊕ List StpT) (o : Option (Unit × Me)) : Prop := match x with
  | .inl f => ∃ σ' : Me, o = some ((), σ') ∧ Fr mpX σ σ' ∧ mi σ' 60 11 = nI f
  | .inr l => ∃ σ' : Me, o = some ((), σ') ∧ Fr mpX σ σ' ∧ mi σ' 60 11 = -1 ∧ mi σ' 70 4 = nI l.length ∧ StV σ' l
theorem nI_any (x : Int32) : ∃ n : Nat, x = nI n := ⟨x.toBitVec.toNat, Int32.toBitVec_inj.1 (by
  show x.toBitVec = BitVec.ofNat 32 x.toBitVec.toNat
  rw [BitVec.ofNat_toNat, BitVec.setWidth_eq])⟩
theorem Fr.tm {σ σ' : Me} (h : Fr tsX σ σ') : Fr mpX σ σ' := h.mono (fun a j e => by
  simp only [mpX, tsX, Bool.or_eq_false_iff, Bool.and_eq_false_iff, decide_eq_false_iff_not, beq_eq_false_iff_ne] at e ⊢
  omega)
theorem Fr.sm {σ σ' : Me} (h : Fr msX σ σ') : Fr mpX σ σ' := h.mono (fun a j e => by
  simp only [mpX, msX, Bool.or_eq_false_iff, Bool.and_eq_false_iff, decide_eq_false_iff_not, beq_eq_false_iff_ne] at e ⊢
  omega)
theorem mpX_f : Sf mpX := by
  have h : ∀ q ∈ rfL, mpX q.1.1 q.1.2 = false := by decide +kernel
  exact h
theorem readP_m (h : Sh σ) (hT : txOK T) (ht : TpM σ T) (hN : 300 ≤ N) : ParQ2 σ (pPlan T) (fc12_readPlan N 60 σ) := by
  obtain ⟨d, hd⟩ := nI_any (mi σ 60 12)
  obtain ⟨σ1, s1, s2, s3⟩ := starts_m (N := N) h ht hd
  have q1 : qR σ 12 1 (some 60) = some (some 61) := by simp only [qR, PN h, bnd]
  have k := rp17_m (σ0 := σ1) hT hN 15 0 0 N [] σ1 rfl (by omega) rfl s3 (fun i s e => by cases e) (Fr.rf _ _)
  rw [fc12_readPlan, q1, bnd, mq h ht.1, bnd, d60 h, bnd, s1, bnd]
  unfold pPlan
  generalize pPlnL T 16 0 [] = x at k ⊢
  rcases x with c | l
  · obtain ⟨σ2, k1, k2, k3⟩ := k
    exact ⟨σ2, k1, s2.tm.tr k2.sm, k3⟩
  · obtain ⟨σ2, k1, k2, k3⟩ := k
    exact ⟨σ2, k1, s2.tm.tr k2.sm, k3⟩
end MPL
