/-! a plan performed, years by draws, in the reference -/
section MY
variable {N : Nat} {σ : Me}
theorem pd_withH {S : Sy} {r : Rw} {lg : Lg} {acts : List Rw} {img : Im} (h : PdM N (JM (sL S) (sH S)) (sq S)) : PdM N (JM (sL (withH S r lg acts img)) (sH (withH S r lg acts img))) (sq (withH S r lg acts img)) := h
theorem perform24_m {k : Nat} {e : PnE} : ∀ (m i fu : Nat) (S : Sy) (σ : Me), i + m = e.2.1 → m < fu → Qm N σ S → (sP S)[k]? = some e →
    ∃ σ' : Me, fc12_perform_24 N fu (some 60) (nI k) (nI i) σ = some (nI (pfN e.2.2 m i S).1, σ') ∧ Sh σ' ∧ Fr mhX σ σ' ∧ RM σ' (pfN e.2.2 m i S).2 := by
  intro m
  induction m with
  | zero =>
    intro i fu S σ hi hfu hq he
    obtain ⟨fu, rfl⟩ : ∃ f, fu = f + 1 := ⟨fu - 1, by omega⟩
    have hw := hq.2.2.1
    have hok := hw.2.2.2.2.2.1 k e he
    have h1 := hok.1
    have h16 := hok.2.1
    obtain ⟨-, g0, g1, g2, -⟩ := pm_step hq.1 hq.2.1.2.2.1 hw.2.2.2.2.1 he hok (show 0 < e.2.1 by omega)
    refine ⟨σ, ?_, hq.1, Fr.rf _ _, hq.2.1⟩
    rw [fc12_perform_24, g1, bnd, g2, bnd, if_pos (nI_le (by omega) (by omega))]
    rfl
  | succ m ih =>
    intro i fu S σ hi hfu hq he
    obtain ⟨fu, rfl⟩ : ∃ f, fu = f + 1 := ⟨fu - 1, by omega⟩
    obtain ⟨hs, hr, hw, h0, hpd, hN⟩ := id hq
    obtain ⟨a1, a2, a3, a4, -⟩ := hw.hs.yes h0
    have b6 := a2.1
    have hok := hw.2.2.2.2.2.1 k e he
    have h16 := hok.2.1
    have hi1 : i < e.2.1 := by omega
    have hst := hok.2.2 i hi1
    obtain ⟨hk, g0, g1, g2, g3, l1, l2, l3⟩ := pm_step hs hr.2.2.1 hw.2.2.2.2.1 he hok hi1
    have r28 : qR σ 12 28 (some 60) = some (some 71) := by simp only [qR, PN hs, bnd]
    have d60 : dr σ (some 60) (.inl 12) = some 60 := by simp only [PN hs]
    have cs := canStep_m (N := N) hs (.inl rfl) hr.2.2.2.2.1.1 hr.2.2.2.2.1.2.1 b6 a3 hst g0 l1 l2 l3
    have c10 : ¬ (1 : Int32) = 0 := by decide
    rw [fc12_perform_24, g1, bnd, g2, bnd, if_neg (nI_ge (by omega) (by omega)), r28, bnd, d60, bnd, g3, cs, bnd, pfN]
    by_cases hb : spB (sQ S) (sR S) (e.2.2 i) = true
    · rw [if_pos hb]
      rw [hb, bI_t, if_neg c10]
      have hwS := spS_ok hw h0 hb
      obtain ⟨σ1, k1, k2, k3, k4, k5⟩ := remH (N := N) hs hr hw h0 hN
      have hp1 : PnM σ1 (sP S) := hr.2.2.1.fr k3 hw.2.2.2.2.1 (fun i q e => (hw.2.2.2.2.2.1 i q e).2.1) rfl (fun j hj => rfl) (fun j hj => rfl)
      obtain ⟨-, g0', g1', g2', -, l1', l2', l3'⟩ := pm_step k2 hp1 hw.2.2.2.2.1 he hok hi1
      have r28' : qR σ1 12 28 (some 60) = some (some 71) := by simp only [qR, PN k2, bnd]
      have d60' : dr σ1 (some 60) (.inl 12) = some 60 := by simp only [PN k2]
      by_cases hk0 : (e.2.2 i).1 = 0
      · have eS : spS S (e.2.2 i) = yrS S (e.2.2 i).2.1 := by unfold spS; rw [if_pos hk0]
        obtain ⟨σ1', σ2, e1, e2, e3, e4, e5, e6, e7⟩ := goM hq hst.2.1
        have es : σ1 = σ1' := congrArg Prod.snd (Option.some.inj (k1.symm.trans e1))
        subst es
        rw [eS] at hwS ⊢
        obtain ⟨σ', z1, z2, z3, z4⟩ := ih (i + 1) fu (yrS S (e.2.2 i).2.1) σ2 (by omega) (by omega) ⟨e4, e6, hwS, h0, pd_withH hpd, hN⟩ he
        refine ⟨σ', ?_, z2, e5.tr z3, z4⟩
        have gs := goStepY (N := N) (x := nI (3 * (16 * k + i))) (s := e.2.2 i) k2 e4 hk0 g0' l1' l2' e3 e7
        rw [← z1]
        simp only [d60, bnd, k1, r28', d60', gs, nI_1]
      · have eS : spS S (e.2.2 i) = acS S (spG (sQ S) (sq S) (sR S) (e.2.2 i)) := by unfold spS; rw [if_neg hk0]
        obtain ⟨σ2, t1, t2, t3⟩ := goStepA (N := N) (q := sq S) k2 (.inl rfl) k4.1 k4.2.1 b6 a3 hst hk0 hb (by omega) g0' l1' l2' l3'
        have j4 : rt (spG (sQ S) (sq S) (sR S) (e.2.2 i)) = rt (sR S) := by
          unfold spG
          rw [if_neg hk0]
          split
          · rfl
          · split <;> rfl
        obtain ⟨e1, e2, e3⟩ := actM hs hr hw k3 k4 k5 t2 t3 j4
        rw [eS] at hwS ⊢
        obtain ⟨σ', z1, z2, z3, z4⟩ := ih (i + 1) fu (acS S (spG (sQ S) (sq S) (sR S) (e.2.2 i))) σ2 (by omega) (by omega) ⟨e1, e3, hwS, h0, pd_withH hpd, hN⟩ he
        refine ⟨σ', ?_, z2, e2.tr z3, z4⟩
        rw [← z1]
        simp only [d60, bnd, k1, r28', d60', t1, nI_1]
    · rw [if_neg hb]
      have hb' : spB (sQ S) (sR S) (e.2.2 i) = false := by simpa using hb
      rw [hb', bI_f, if_pos rfl]
      exact ⟨σ, rfl, hs, Fr.rf _ _, hr⟩
theorem perform_m {S : Sy} (h : Qm N σ S) {k : Nat} {e : PnE} (he : (sP S)[k]? = some e) : ∃ σ' : Me, fc12_perform N 60 (nI k) σ = some (nI (pfN e.2.2 e.2.1 0 S).1, σ') ∧ Sh σ' ∧ Fr mhX σ σ' ∧ RM σ' (pfN e.2.2 e.2.1 0 S).2 := by
  have hq := h.th
  have hw := h.2.2.1
  have h0 := h.2.2.2.1
  have hN := h.2.2.2.2.2
  have b6 := hw.n6
  have hok := hw.2.2.2.2.2.1 k e he
  have h1 := hok.1
  have h16 := hok.2.1
  obtain ⟨hk, -⟩ := pm_step hq.1 hq.2.1.2.2.1 hw.2.2.2.2.1 he hok (show 0 < e.2.1 by omega)
  obtain ⟨σ', z1, z2, z3, z4⟩ := perform24_m (N := N) e.2.1 0 N S _ (by omega) (by omega) hq he
  refine ⟨σ', ?_, z2, th0_fr.mh.tr z3, z4⟩
  have cc : ¬ (1 : Int32) = 0 := by decide
  have d0 : ¬ nI (pn (sQ S)) = 0 := nI_ne0 (by omega) (by omega)
  rw [fc12_perform, th0 h.1, bnd]
  simp (disch := omega) only [PN hq.1, bnd, isPlan_y hq.1 hq.2.1.2.2.1 hw.2.2.2.2.1 hk, cc, if_true, if_false, ↓reduceIte, and_true, true_and, and_false, false_and, not_true_eq_false, not_false_eq_true, and_self, qI, qR, hq.2.1.2.2.2.2.1.1.1, d0]
  exact z1
theorem perform_mn {S : Sy} (h : Sh σ) (hr : RM σ S) (hw : WS S) {x : Int32} (hx : ¬ ∃ (k : Nat) (e : PnE), (sP S)[k]? = some e ∧ pn (sQ S) ≠ 0 ∧ x = nI k) : fc12_perform N 60 x σ = some (-1, setI σ 60 0 0) := by
  have b6 := hw.n6
  have h4 := hw.2.2.2.2.1
  have ht : Sh (setI σ 60 0 0) := h
  have hr1 := hr.th hw
  have hn := hr1.2.2.2.2.1.1.1
  have cc : ¬ (1 : Int32) = 0 := by decide
  rw [fc12_perform, th0 h, bnd]
  rcases nix x (n := (sP S).length) (by omega) with q | ⟨k, hk, rfl⟩
  · simp (disch := omega) only [PN ht, bnd, isPlan_n ht hr1.2.2.1 q, if_true, if_false, ↓reduceIte, and_true, true_and, and_false, false_and, not_true_eq_false, not_false_eq_true, and_self]
  · have he := List.getElem?_eq_getElem hk
    have h0 : pn (sQ S) = 0 := by
      rcases Nat.decEq (pn (sQ S)) 0 with e | e
      · exact absurd ⟨k, _, he, e, rfl⟩ hx
      · exact e
    rw [h0] at hn
    simp (disch := omega) only [PN ht, bnd, isPlan_y ht hr1.2.2.1 h4 hk, cc, if_true, if_false, ↓reduceIte, and_true, true_and, and_false, false_and, not_true_eq_false, not_false_eq_true, and_self, qI, hn, nI_0]
/-! draws -/
theorem rm_drw (x : Int64) {m : Nat} (h0 : 0 < m) (hm : m < 1000) : rmL (uxL x) (Int32.toInt64 (nI m)) = some (lN (drw x m)) := by
  have h := ux_lt x
  unfold rmL
  rw [nI_l (by omega), uxL_eq]
  have n0 : ¬ lN m = 0 := by
    have := (lN_eq (a := m) (b := 0) (by omega) (by decide))
    intro e
    have e0 : (0 : Int64) = lN 0 := rfl
    rw [e0] at e
    exact absurd (this.mp e) (by omega)
  rw [if_neg n0, pk_lRem (by omega) h0 (by omega)]
  rfl
theorem draw_m (h : Sh σ) {m : Nat} (h0 : 0 < m) (hm : m < 1000) {x : Int64} (hx : ml σ 60 40 = x) : fc12_draw N 60 (nI m) σ = some (nI (drw (stir x) m), setL σ 60 40 (stir x)) := by
  have q1 : qL σ 12 40 (some 60) = some x := by simp only [qL, PN h, bnd, hx]
  rw [fc12_draw, q1, bnd]
  show (pL σ 12 40 (some 60) (stir x)).bind _ = _
  generalize stir x = y
  have h2 : Sh (setL σ 60 40 y) := h
  have p1 : pL σ 12 40 (some 60) y = some (setL σ 60 40 y) := by simp only [pL, PN h, bnd]
  have q2 : qL (setL σ 60 40 y) 12 40 (some 60) = some y := by simp only [qL, PN h2, bnd, ml_eq]
  rw [p1, bnd, q2, bnd]
  show (rmL (uxL y) (Int32.toInt64 (nI m))).bind _ = _
  rw [rm_drw y h0 hm, bnd, lN_i]
end MY
