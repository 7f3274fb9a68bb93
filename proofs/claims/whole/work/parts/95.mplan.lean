/-! plans in the reference -/
theorem retZb (b : Bool) (σ : Me) : retZ (bI b) σ = some (bI b, σ) := by cases b <;> rfl
theorem bI_if (b : Bool) : (if b = true then (1 : Int32) else 0) = bI b := by cases b <;> rfl
section MS
variable {N : Nat} {σ : Me} {w : Nat} {P : Pl} {r : Rw}
theorem canStep_m (h : Sh σ) (hw : w = 71 ∨ w = 72) (hP : PlM σ P) (hL : RwM σ w (pn P) r) (h6 : pn P ≤ 6) (hR : RwB (pn P) r) {x : Int32} {s : Nat × Nat × Int32} (hs : stOK s) (g0 : qR σ 12 22 (some 60) = some (some 69)) (l1 : ldI σ (some 69) x = some (nI s.1)) (l2 : ldI σ (some 69) (x + (1 : Int32)) = some (nI s.2.1)) (l3 : ldI σ (some 69) (x + (2 : Int32)) = some s.2.2) : fc12_canStep N 60 (some w) x σ = some (bI (spB P r s), σ) := by
  have kw := h.w hw
  have hw2 : w ≤ 72 := by omega
  obtain ⟨s1, s2, s3, s4, s5⟩ := hs
  have ht := hR.2.1
  have d60 : dr σ (some 60) (.inl 12) = some 60 := by simp only [PN h]
  rw [fc12_canStep, g0, bnd, l2, bnd, bnd, l1, bnd]
  unfold spB
  by_cases c0 : s.1 = 0
  · rw [if_pos c0, c0, if_pos (show nI 0 = (0 : Int32) from rfl)]
    have l25 : ldI σ (some w) 25 = some (nI (rt r)) := by simp (disch := omega) only [y25, ldI_lo, kw, bnd, nI_clamp, hL.2.1]
    rw [l25, bnd, y999]
    by_cases c : rt r < 999
    · rw [if_neg (nI_ge c (by omega)), decide_eq_true c]; rfl
    · rw [if_pos (nI_le (by omega) (by omega)), decide_eq_false c]; rfl
  · have n0 : ¬ nI s.1 = (0 : Int32) := nI_ne0 (by omega) (by omega)
    rw [if_neg c0, if_neg n0]
    by_cases c1 : s.1 = 1
    · obtain ⟨d, hd, ed⟩ := s4 c1
      have hsd : sd s = d := by unfold sd; rw [ed, nI_clamp (by omega)]
      rw [if_pos c1, c1, if_pos (show nI 1 = (1 : Int32) from rfl), bnd, l3, bnd, d60, bnd, ed, hsd]
      by_cases hb : s.2.1 < pn P ∧ 1 ≤ d ∧ d ≤ ro r s.2.1
      · rw [canForgive_y h hw hP hL h6 hR hb.1 hb.2.1 (by omega) hb.2.2, decide_eq_true hb.1, decide_eq_true hb.2.1, decide_eq_true hb.2.2]; rfl
      · rw [canForgive_n h hw hP hL h6 hR (by
          rintro ⟨i, m, q1, q2, q3, q4, q5, q6⟩
          have e1 := nI_inj q5 (by omega) (by omega)
          have e2 := nI_inj q6 (by omega) (by omega)
          subst e1 e2
          exact hb ⟨q1, q2, q4⟩)]
        have hb' : (decide (s.2.1 < pn P) && (decide (1 ≤ d) && decide (d ≤ ro r s.2.1))) = false := by
          rw [Bool.eq_false_iff]
          intro e
          simp only [Bool.and_eq_true, decide_eq_true_eq] at e
          exact hb ⟨e.1, e.2.1, e.2.2⟩
        rw [hb']; rfl
    · have n1 : ¬ nI s.1 = (1 : Int32) := by rw [y1, nI_eq (by omega) (by decide)]; exact c1
      rw [if_neg c1, if_neg n1]
      by_cases c2 : s.1 = 2
      · rw [if_pos c2, c2, if_pos (show nI 2 = (2 : Int32) from rfl), d60, bnd]
        by_cases hb : s.2.1 + 1 < pn P
        · rw [canHedge_y h hw hP hL h6 hR hb, decide_eq_true hb, Bool.true_and, bI_if, bnd, retZb]
        · rw [canHedge_n h hP h6 (by
            rintro ⟨i, q1, q2⟩
            have e1 := nI_inj q2 (by omega) (by omega)
            subst e1
            exact hb q1), decide_eq_false hb, Bool.false_and]; rfl
      · have n2 : ¬ nI s.1 = (2 : Int32) := by rw [y2, nI_eq (by omega) (by decide)]; exact c2
        rw [if_neg c2, if_neg n2, d60, bnd]
        by_cases hb : s.2.1 < pn P
        · rw [canFill_y h hw hP hL h6 hR hb, decide_eq_true hb, Bool.true_and, bI_if, bnd, retZb]
        · rw [canFill_n h hP (.inr (nI_le (by omega) (by omega))), decide_eq_false hb, Bool.false_and]; rfl
theorem goStepY {x : Int32} {s : Nat × Nat × Int32} {v : Nat} {σ' : Me} (h : Sh σ) (h' : Sh σ') (c0 : s.1 = 0) (g0 : qR σ 12 22 (some 60) = some (some 69)) (l1 : ldI σ (some 69) x = some (nI s.1)) (l2 : ldI σ (some 69) (x + (1 : Int32)) = some (nI s.2.1)) (gy : fc12_goYear N 60 (some w) (nI s.2.1) σ = some ((), σ')) (hv : mi σ' 60 37 = nI v) : fc12_goStep N 60 (some w) x σ = some (nI v, σ') := by
  have d60 : dr σ (some 60) (.inl 12) = some 60 := by simp only [PN h]
  have q37 : qI σ' 12 37 (some 60) = some (nI v) := by simp only [qI, PN h', bnd, hv]
  rw [fc12_goStep, g0, bnd, l2, bnd, bnd, l1, bnd, c0, if_pos (show nI 0 = (0 : Int32) from rfl), d60, bnd, gy, bnd, q37, bnd]
theorem goStepA {q : PF} (h : Sh σ) (hw : w = 71 ∨ w = 72) (hP : PlM σ P) (hL : RwM σ w (pn P) r) (h6 : pn P ≤ 6) (hR : RwB (pn P) r) {x : Int32} {s : Nat × Nat × Int32} (hs : stOK s) (c0 : s.1 ≠ 0) (hb : spB P r s = true) (hN : 10 ≤ N) (g0 : qR σ 12 22 (some 60) = some (some 69)) (l1 : ldI σ (some 69) x = some (nI s.1)) (l2 : ldI σ (some 69) (x + (1 : Int32)) = some (nI s.2.1)) (l3 : ldI σ (some 69) (x + (2 : Int32)) = some s.2.2) : ∃ σ' : Me, fc12_goStep N 60 (some w) x σ = some (0, σ') ∧ Fr (rS w) σ σ' ∧ RwM σ' w (pn P) (spG P q r s) := by
  obtain ⟨s1, s2, s3, s4, s5⟩ := hs
  have d60 : dr σ (some 60) (.inl 12) = some 60 := by simp only [PN h]
  have n0 : ¬ nI s.1 = (0 : Int32) := nI_ne0 (by omega) (by omega)
  rw [fc12_goStep, g0, bnd, l2, bnd, bnd, l1, bnd, if_neg n0]
  unfold spB at hb
  unfold spG
  rw [if_neg c0] at hb ⊢
  by_cases c1 : s.1 = 1
  · obtain ⟨d, hd, ed⟩ := s4 c1
    have hsd : sd s = d := by unfold sd; rw [ed, nI_clamp (by omega)]
    rw [if_pos c1] at hb ⊢
    rw [hsd] at hb ⊢
    simp only [Bool.and_eq_true, decide_eq_true_eq] at hb
    obtain ⟨σ', m1, m2, m3⟩ := forgives_m (N := N) h hw hP hL h6 hR hb.1 hb.2.2 hN
    refine ⟨σ', ?_, m2, m3⟩
    rw [c1, if_pos (show nI 1 = (1 : Int32) from rfl), bnd, l3, bnd, d60, bnd, ed, m1, bnd]
  · have n1 : ¬ nI s.1 = (1 : Int32) := by rw [y1, nI_eq (by omega) (by decide)]; exact c1
    rw [if_neg c1] at hb ⊢
    rw [if_neg n1]
    by_cases c2 : s.1 = 2
    · rw [if_pos c2] at hb ⊢
      simp only [Bool.and_eq_true, decide_eq_true_eq] at hb
      obtain ⟨σ', m1, m2, m3⟩ := hedges_m (N := N) h hw hL h6 hb.1 hN
      refine ⟨σ', ?_, m2, m3⟩
      rw [c2, if_pos (show nI 2 = (2 : Int32) from rfl), m1, bnd]
    · rw [if_neg c2] at hb ⊢
      simp only [Bool.and_eq_true, decide_eq_true_eq] at hb
      have n2 : ¬ nI s.1 = (2 : Int32) := by rw [y2, nI_eq (by omega) (by decide)]; exact c2
      obtain ⟨σ', m1, m2, m3⟩ := fills_m (N := N) h hw hL h6 hR hb.1 hb.2
      refine ⟨σ', ?_, m2, m3⟩
      rw [if_neg n2, m1, bnd]
theorem run106 {n k i acc v : Nat} (hv : v ≤ 1) (hi : i ≤ n) (hn : n ≤ 16) (g1 : qR σ 12 23 (some 60) = some (some 70)) (g2 : ldI σ (some 70) (nI k) = some (nI n)) : fc12_run_106 N (some 60) (nI k) (nI v) (nI i) (nI acc) σ = some (rnA v (if i = n then none else some i, acc), σ) := by
  unfold fc12_run_106 rnA
  by_cases c : v = 0
  · subst c
    rw [if_neg (by decide), g1, bnd, g2, bnd, if_pos rfl]
    by_cases e : i = n
    · subst e; rw [if_pos rfl, if_pos rfl]; rfl
    · rw [if_neg (fun q => e (nI_inj q (by omega) (by omega))), if_neg e]; rfl
  · have e : v = 1 := by omega
    subst e
    rw [if_pos (show nI 1 = (1 : Int32) from rfl), if_neg c]
theorem Qm.row {S : Sy} {σ' : Me} (h : Qm N σ S) (f : Fr (rS 72) σ σ') : Qm N σ' S := h.fr (f.mono (fun a j e => rS_m e)) (h.memo.fr f (fun _ => ⟨rfl, rfl⟩))
theorem TrM.row {r1 r2 : Rw} {σ' : Me} (h : TrM σ P r1) (f : Fr (rS 72) σ σ') (hr : RwM σ' 72 (pn P) r2) : TrM σ' P r2 := by
  obtain ⟨-, c, lg, h2⟩ := h
  exact ⟨hr, c, lg, h2.fr f (fun j hj => by simp [rS]; omega)⟩
theorem run50_m {S : Sy} {k v : Nat} {e : PnE} (he : (sP S)[k]? = some e) (hv : v ≤ 1) : ∀ (m i fu : Nat) (r' : Rw) (acc : Nat) (τ : Me), i + m = e.2.1 → m < fu → acc ≤ 2000 * i → rt r' ≤ rt (sR S) + i → RwB (pn (sQ S)) r' → Qm N τ S → TrM τ (sQ S) r' →
    ∃ σ' : Me, fc12_run_50 N fu (some 60) (nI k) (nI v) (nI i) (nI acc) τ = some (rnA v (rnN (sQ S) (sq S) e.2.2 m i r' acc), σ') ∧ Fr mX τ σ' ∧ MemoM σ' (sL S) := by
  intro m
  induction m with
  | zero =>
    intro i fu r' acc τ hi hfu hacc hrt hRB hq hT
    obtain ⟨fu, rfl⟩ : ∃ f, fu = f + 1 := ⟨fu - 1, by omega⟩
    have hw := hq.2.2.1
    have hok := hw.2.2.2.2.2.1 k e he
    have h1 := hok.1
    obtain ⟨-, g0, g1, g2, -⟩ := pm_step hq.1 hq.2.1.2.2.1 hw.2.2.2.2.1 he hok (show 0 < e.2.1 by omega)
    have h16 := hok.2.1
    refine ⟨τ, ?_, Fr.rf _ _, hq.memo⟩
    have r6 := run106 (N := N) (σ := τ) (k := k) (acc := acc) hv (show i ≤ e.2.1 by omega) h16 g1 g2
    rw [if_pos (show i = e.2.1 by omega)] at r6
    rw [fc12_run_50, g1, bnd, g2, bnd, if_pos (nI_le (by omega) (by omega)), r6]
    rfl
  | succ m ih =>
    intro i fu r' acc τ hi hfu hacc hrt hRB hq hT
    obtain ⟨fu, rfl⟩ : ∃ f, fu = f + 1 := ⟨fu - 1, by omega⟩
    have hw := hq.2.2.1
    have h0 := hq.2.2.2.1
    have hN := hq.2.2.2.2.2
    obtain ⟨a1, a2, a3, a4, -⟩ := hw.hs.yes h0
    have b6 := a2.1
    have hok := hw.2.2.2.2.2.1 k e he
    have h16 := hok.2.1
    have hi1 : i < e.2.1 := by omega
    have hst := hok.2.2 i hi1
    obtain ⟨hk, g0, g1, g2, g3, l1, l2, l3⟩ := pm_step hq.1 hq.2.1.2.2.1 hw.2.2.2.2.1 he hok hi1
    have r29 : qR τ 12 29 (some 60) = some (some 72) := by simp only [qR, PN hq.1, bnd]
    have d60 : dr τ (some 60) (.inl 12) = some 60 := by simp only [PN hq.1]
    have cs := canStep_m (N := N) hq.1 (.inr rfl) hq.2.1.2.2.2.2.1.1 hT.1 b6 hRB hst g0 l1 l2 l3
    have c10 : ¬ (1 : Int32) = 0 := by decide
    rw [fc12_run_50, g1, bnd, g2, bnd, if_neg (nI_ge (by omega) (by omega)), r29, bnd, d60, bnd, g3, cs, bnd, rnN]
    by_cases hb : spB (sQ S) r' (e.2.2 i) = true
    · rw [if_pos hb]
      obtain ⟨j1, j2, j3⟩ := spG_B (q := sq S) hRB (by omega) hb
      rw [hb, bI_t, if_neg c10]
      by_cases hk0 : (e.2.2 i).1 = 0
      · have eG : spG (sQ S) (sq S) r' (e.2.2 i) = yrY (sQ S) (sq S) r' (e.2.2 i).2.1 := by unfold spG; rw [if_pos hk0]
        have eV : spV (sQ S) (sq S) r' (e.2.2 i) = borY (sQ S) (sq S) r' (e.2.2 i).2.1 := by unfold spV; rw [if_pos hk0]
        obtain ⟨τ1, y1', y2', -, y3', y4', y5'⟩ := hq.year hT hRB (rain := (e.2.2 i).2.1) hst.2.1
        have hbor := borY_le (q := sq S) a2 r' (e.2.2 i).2.1
        have gs := goStepY (N := N) (x := nI (3 * (16 * k + i))) (s := e.2.2 i) hq.1 y3'.1 hk0 g0 l1 l2 y1' y5'.2.1
        obtain ⟨σ', z1, z2, z3⟩ := ih (i + 1) fu (spG (sQ S) (sq S) r' (e.2.2 i)) (acc + spV (sQ S) (sq S) r' (e.2.2 i)) τ1 (by omega) (by omega) (by rw [eV]; omega) (by omega) j1 y3' (by rw [eG]; exact y4')
        refine ⟨σ', ?_, y2'.tr z2, z3⟩
        rw [← z1, eV]
        simp only [r29, bnd, d60, gs, nI_1, nI_add]
      · have eV : spV (sQ S) (sq S) r' (e.2.2 i) = 0 := by unfold spV; rw [if_neg hk0]
        obtain ⟨τ1, t1, t2, t3⟩ := goStepA (N := N) (q := sq S) hq.1 (.inr rfl) hq.2.1.2.2.2.2.1.1 hT.1 b6 hRB hst hk0 hb (by omega) g0 l1 l2 l3
        obtain ⟨σ', z1, z2, z3⟩ := ih (i + 1) fu (spG (sQ S) (sq S) r' (e.2.2 i)) (acc + spV (sQ S) (sq S) r' (e.2.2 i)) τ1 (by omega) (by omega) (by rw [eV]; omega) (by omega) j1 (hq.row t2) (hT.row t2 t3)
        refine ⟨σ', ?_, (t2.mono (fun a j e => rS_m e)).tr z2, z3⟩
        rw [← z1, eV]
        simp only [r29, bnd, d60, t1, nI_1, Nat.add_zero, ip0]
    · rw [if_neg hb]
      have hb' : spB (sQ S) r' (e.2.2 i) = false := by simpa using hb
      rw [hb', bI_f, if_pos rfl]
      have r6 := run106 (N := N) (σ := τ) (k := k) (acc := acc) hv (show i ≤ e.2.1 by omega) h16 g1 g2
      rw [if_neg (show ¬ i = e.2.1 by omega)] at r6
      exact ⟨τ, r6, Fr.rf _ _, hq.memo⟩
theorem run_m {S : Sy} (h : Qm N σ S) {k v : Nat} {e : PnE} (he : (sP S)[k]? = some e) (hv : v ≤ 1) : ∃ σ' : Me, fc12_run N 60 (nI k) (nI v) σ = some (rnA v (rnN (sQ S) (sq S) e.2.2 e.2.1 0 (sR S) 0), σ') ∧ Fr mX σ σ' ∧ MemoM σ' (sL S) := by
  have hq := h.th
  have hw := h.2.2.1
  have h0 := h.2.2.2.1
  have hN := h.2.2.2.2.2
  obtain ⟨a1, a2, a3, a4, -⟩ := hw.hs.yes h0
  have b6 := a2.1
  have hok := hw.2.2.2.2.2.1 k e he
  have h1 := hok.1
  have h16 := hok.2.1
  obtain ⟨hk, -⟩ := pm_step hq.1 hq.2.1.2.2.1 hw.2.2.2.2.1 he hok (show 0 < e.2.1 by omega)
  obtain ⟨σ1, c1, c2, -, c3, c4⟩ := hq.copy
  obtain ⟨σ', z1, z2, z3⟩ := run50_m (N := N) he hv e.2.1 0 N (sR S) 0 σ1 (by omega) (by omega) (by omega) (by omega) a3 c3 c4
  refine ⟨σ', ?_, (th0_fr.tr c2).tr z2, z3⟩
  have cc : ¬ (1 : Int32) = 0 := by decide
  have d0 : ¬ nI (pn (sQ S)) = 0 := nI_ne0 (by omega) (by omega)
  rw [fc12_run, th0 h.1, bnd]
  simp (disch := omega) only [PN hq.1, bnd, isPlan_y hq.1 hq.2.1.2.2.1 hw.2.2.2.2.1 hk, cc, if_true, if_false, ↓reduceIte, and_true, true_and, and_false, false_and, not_true_eq_false, not_false_eq_true, and_self, qI, qR, hq.2.1.2.2.2.2.1.1.1, d0, in0_1_y (Nat.zero_le v) hv, c1]
  exact z1
theorem run_mn {S : Sy} (h : Sh σ) (hr : RM σ S) (hw : WS S) {x y : Int32} (hx : ¬ ∃ (k w : Nat) (e : PnE), (sP S)[k]? = some e ∧ pn (sQ S) ≠ 0 ∧ w ≤ 1 ∧ x = nI k ∧ y = nI w) : fc12_run N 60 x y σ = some (-1000000, setI σ 60 0 0) := by
  have b6 := hw.n6
  have h4 := hw.2.2.2.2.1
  have ht : Sh (setI σ 60 0 0) := h
  have hr1 := hr.th hw
  have hn := hr1.2.2.2.2.1.1.1
  have cc : ¬ (1 : Int32) = 0 := by decide
  rw [fc12_run, th0 h, bnd]
  rcases nix x (n := (sP S).length) (by omega) with q | ⟨k, hk, rfl⟩
  · simp (disch := omega) only [PN ht, bnd, isPlan_n ht hr1.2.2.1 q, if_true, if_false, ↓reduceIte, and_true, true_and, and_false, false_and, not_true_eq_false, not_false_eq_true, and_self, fc12_run_30]
  · have he := List.getElem?_eq_getElem hk
    by_cases h0 : pn (sQ S) = 0
    · rw [h0] at hn
      simp (disch := omega) only [PN ht, bnd, isPlan_y ht hr1.2.2.1 h4 hk, cc, if_true, if_false, ↓reduceIte, and_true, true_and, and_false, false_and, not_true_eq_false, not_false_eq_true, and_self, qI, hn, nI_0, fc12_run_30]
    · have d0 : ¬ nI (pn (sQ S)) = 0 := nI_ne0 (by omega) (by omega)
      simp (disch := omega) only [PN ht, bnd, isPlan_y ht hr1.2.2.1 h4 hk, cc, if_true, if_false, ↓reduceIte, and_true, true_and, and_false, false_and, not_true_eq_false, not_false_eq_true, and_self, qI, hn, d0, in0_1_n (x := y) (fun ⟨j, _, e1, e2⟩ => hx ⟨k, j, _, he, h0, e1, rfl, e2⟩), fc12_run_30]
end MS
