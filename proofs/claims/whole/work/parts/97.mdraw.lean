/-! years by draws in the reference -/
section MW
variable {N : Nat} {σ : Me}
def dS : Nat → Nat → Bool := fun a j => (a == 60 && j == 40) || (a == 71 && decide (j < 24))
theorem dS_f : Sf dS := by
  have h : ∀ q ∈ rfL, dS q.1.1 q.1.2 = false := by decide +kernel
  exact h
theorem dS_h {a j : Nat} (h : mhX a j = false) : dS a j = false := by
  simp only [mhX, mX, dS, Bool.or_eq_false_iff, Bool.and_eq_false_iff, decide_eq_false_iff_not, beq_eq_false_iff_ne] at h ⊢
  omega
theorem setL_fr {y : Int64} : Fr dS σ (setL σ 60 40 y) := fr_L rfl (Fr.rf _ _)
theorem set71 {n : Nat} {r : Rw} {f x : Nat} (hL : RwM σ 71 n r) (h6 : n ≤ 6) (hf : f < n) : RwM (setI σ 71 (4 * f) (nI x)) 71 n (rOwe r f x) := by
  obtain ⟨l1, l2, lf⟩ := hL
  refine ⟨by rw [mi_ne _ _ (by omega)]; exact l1, by rw [mi_ne _ _ (by omega)]; exact l2, fun k hk => ?_⟩
  obtain ⟨g1, g2, g3, g4⟩ := lf k hk
  rw [mi_ne (i := 4 * f) (j := 4 * k + 1) _ _ (by omega), mi_ne (i := 4 * f) (j := 4 * k + 2) _ _ (by omega), mi_ne (i := 4 * f) (j := 4 * k + 3) _ _ (by omega)]
  refine ⟨?_, g2, g3, g4⟩
  rw [ro_owe]
  by_cases e : k = f
  · subst e; rw [if_pos rfl, mi_eq]
  · rw [if_neg e, mi_ne _ _ (by omega)]; exact g1
theorem ym_no {n k fu v E : Nat} {x1 : Int64} {σ1 : Me} (h : Sh σ) (hk : k < n) (hn : n ≤ 60) (k1 : fc12_remember N 60 σ = some ((), σ1)) (h1 : Sh σ1) (e31 : mi σ1 60 31 = nI E) (dw1 : fc12_draw N 60 (nI 10) σ1 = some (nI v, setL σ1 60 40 x1)) (hv : v < 10) (c : E ≤ v) : fc12_years_49 N (fu + 1) (some 60) (nI n) (nI k) σ = fc12_years_109 N (fc12_years_49 N fu) (some 60) (nI n) (nI k) (setL σ1 60 40 x1) := by
  have d60 : dr σ (some 60) (.inl 12) = some 60 := by simp only [PN h]
  have d60' : dr σ1 (some 60) (.inl 12) = some 60 := by simp only [PN h1]
  have h2 : Sh (setL σ1 60 40 x1) := h1
  have q31 : qI (setL σ1 60 40 x1) 12 31 (some 60) = some (nI E) := by simp only [qI, PN h2, bnd, mi_setL, e31]
  have hle : nI E ≤ nI v := nI_le c (by omega)
  rw [fc12_years_49, if_neg (nI_ge hk (by omega)), d60, bnd, k1, bnd, d60', bnd, y10, dw1, bnd, q31, bnd, if_pos hle]
theorem ym_yes {n k fu v E f m : Nat} {x1 x2 : Int64} {σ1 : Me} {P : Pl} {r : Rw} (h : Sh σ) (hk : k < n) (hn : n ≤ 60) (k1 : fc12_remember N 60 σ = some ((), σ1)) (h1 : Sh σ1) (e31 : mi σ1 60 31 = nI E) (hP : PlM σ1 P) (hL : RwM σ1 71 (pn P) r) (hm : m = pn P) (h6 : pn P ≤ 6) (hR : RwB (pn P) r) (dw1 : fc12_draw N 60 (nI 10) σ1 = some (nI v, setL σ1 60 40 x1)) (hE : E ≤ 9) (c : v < E) (dw2 : fc12_draw N 60 (nI m) (setL σ1 60 40 x1) = some (nI f, setL (setL σ1 60 40 x1) 60 40 x2)) (hf : f < pn P) : fc12_years_49 N (fu + 1) (some 60) (nI n) (nI k) σ = fc12_years_109 N (fc12_years_49 N fu) (some 60) (nI n) (nI k) (setI (setL (setL σ1 60 40 x1) 60 40 x2) 71 (4 * f) (nI (ro r f - ro r f / 2))) := by
  subst hm
  have d60 : dr σ (some 60) (.inl 12) = some 60 := by simp only [PN h]
  have d60' : dr σ1 (some 60) (.inl 12) = some 60 := by simp only [PN h1]
  have h2 : Sh (setL σ1 60 40 x1) := h1
  have h3 : Sh (setL (setL σ1 60 40 x1) 60 40 x2) := h1
  have d60'' : dr (setL σ1 60 40 x1) (some 60) (.inl 12) = some 60 := by simp only [PN h2]
  have q31 : qI (setL σ1 60 40 x1) 12 31 (some 60) = some (nI E) := by simp only [qI, PN h2, bnd, mi_setL, e31]
  have q24 : qI (setL σ1 60 40 x1) 12 24 (some 60) = some (nI (pn P)) := by simp only [qI, PN h2, bnd, mi_setL, hP.1]
  have hle : ¬ nI E ≤ nI v := nI_ge c (by omega)
  have ef := (hL.2.2 f hf).1
  have eb := (hR.2.2 f hf).1
  have s1 := pk_sub (show ro r f / 2 ≤ ro r f by omega)
  have r28 : qR (setL (setL σ1 60 40 x1) 60 40 x2) 12 28 (some 60) = some (some 71) := by simp only [qR, PN h3, bnd]
  have l71 : ldI (setL (setL σ1 60 40 x1) 60 40 x2) (some 71) (nI (4 * f)) = some (nI (ro r f)) := by simp (disch := omega) only [ldI_lo, A71 h3, bnd, nI_clamp, mi_setL, ef]
  have t71 : stI (setL (setL σ1 60 40 x1) 60 40 x2) (some 71) (nI (4 * f)) (nI (ro r f - ro r f / 2)) = some (setI (setL (setL σ1 60 40 x1) 60 40 x2) 71 (4 * f) (nI (ro r f - ro r f / 2))) := by simp (disch := omega) only [stI, A71 h3, bnd, nI_clamp]
  have dv := dv_n (a := ro r f) (d := 2) (by omega) (by decide) (by decide)
  have i4f := i4 (i := f) (by omega)
  rw [fc12_years_49, if_neg (nI_ge hk (by omega)), d60, bnd, k1, bnd, d60', bnd, y10, dw1, bnd, q31, bnd, if_neg hle, q24, bnd, d60'', bnd, dw2, bnd]
  simp only [r28, bnd, i4f, ip0, l71, y2, dv, s1, t71]
theorem ym_end {n k rain : Nat} {x3 : Int64} {σ2 σ4 : Me} {K : Option Nat → Int32 → Int32 → Me → Option (Int32 × Me)} (h2 : Sh σ2) (dw3 : fc12_draw N 60 (nI 100) σ2 = some (nI rain, setL σ2 60 40 x3)) (g1 : fc12_goYear N 60 (some 71) (nI rain) (setL σ2 60 40 x3) = some ((), σ4)) : fc12_years_109 N K (some 60) (nI n) (nI k) σ2 = K (some 60) (nI n) (nI (k + 1)) σ4 := by
  have d60 : dr σ2 (some 60) (.inl 12) = some 60 := by simp only [PN h2]
  have h3 : Sh (setL σ2 60 40 x3) := h2
  have d60' : dr (setL σ2 60 40 x3) (some 60) (.inl 12) = some 60 := by simp only [PN h3]
  have r28 : qR σ2 12 28 (some 60) = some (some 71) := by simp only [qR, PN h2, bnd]
  simp only [fc12_years_109, r28, bnd, d60, y100, dw3, d60', g1, nI_1]
/-- one year by draws, numbers kept shut -/
theorem ym_one {n k fu : Nat} {S : Sy} {x : Int64} (h : Qm N σ S) (hx : ml σ 60 40 = x) (hk : k < n) (hn : n ≤ 60) (dw : ∀ (y : Int64) (m : Nat) (τ : Me), Sh τ → ml τ 60 40 = y → 0 < m → m < 1000 → fc12_draw N 60 (nI m) τ = some (nI (drw (stir y) m), setL τ 60 40 (stir y))) :
    ∃ σ' : Me, fc12_years_49 N (fu + 1) (some 60) (nI n) (nI k) σ = fc12_years_49 N fu (some 60) (nI n) (nI (k + 1)) σ' ∧ Sh σ' ∧ Fr mhX σ σ' ∧ RM σ' (ysS S x) ∧ ml σ' 60 40 = stir (doubt S x).2 := by
  obtain ⟨hs, hr, hw, h0, hpd, hN⟩ := id h
  obtain ⟨a1, a2, a3, a4, a5, a6, a7, a8⟩ := hw.hs.yes h0
  have b6 := a2.1
  have hE := hw.2.2.2.2.2.2.1
  obtain ⟨σ1, k1, k2, k3, k4, k5⟩ := remH (N := N) hs hr hw h0 hN
  have e31 : mi σ1 60 31 = nI (sE S) := by rw [k3.i rfl]; exact hr.2.2.2.1
  have hx1 : ml σ1 60 40 = x := by rw [k3.l rfl]; exact hx
  have hdr := doubt_rt S x
  have hdB := doubt_B x a3 (by omega)
  have hde := doubt_eq S x
  have hlt10 := drw_lt (stir x) (m := 10) (by decide)
  have mid : ∃ σ2 : Me, fc12_years_49 N (fu + 1) (some 60) (nI n) (nI k) σ = fc12_years_109 N (fc12_years_49 N fu) (some 60) (nI n) (nI k) σ2 ∧ Fr dS σ1 σ2 ∧ ml σ2 60 40 = (doubt S x).2 ∧ RwM σ2 71 (pn (sQ S)) (doubt S x).1 := by
    have hf := drw_lt (stir (stir x)) (m := pn (sQ S)) (by omega)
    have dw1 := dw x 10 σ1 k2 hx1 (by decide) (by decide)
    have dw2 := dw (stir x) (pn (sQ S)) (setL σ1 60 40 (stir x)) k2 (ml_eq _ _ _ _) (by omega) (by omega)
    clear hdr hdB
    generalize doubt S x = D at hde ⊢
    generalize stir (stir x) = x2 at *
    generalize stir x = x1 at *
    generalize drw x1 10 = v at *
    generalize drw x2 (pn (sQ S)) = f at *
    by_cases c : v < sE S
    · rw [hde.1 c]
      refine ⟨_, ym_yes hs hk hn k1 k2 e31 k4.1 k4.2.1 rfl b6 a3 dw1 hE c dw2 hf, fr_I (by simp [dS]; omega) (fr_L rfl (fr_L rfl (Fr.rf _ _))), ?_, set71 ?_ b6 hf⟩
      · rw [ml_setI, ml_eq]
      · exact k4.2.1
    · rw [hde.2 c]
      exact ⟨_, ym_no hs hk hn k1 k2 e31 dw1 hlt10 (by omega), setL_fr, ml_eq _ _ _ _, k4.2.1⟩
  obtain ⟨σ2, m1, m2, m3, m4⟩ := mid
  have s2 : Sh σ2 := m2.sh dS_f k2
  have hlt := drw_lt (stir (doubt S x).2) (m := 100) (by decide)
  have dw3 := dw (doubt S x).2 100 σ2 s2 m3 (by decide) (by decide)
  show ∃ σ' : Me, _ ∧ _ ∧ _ ∧ RM σ' (withH S (yrY (sQ S) (sq S) (doubt S x).1 (drw (stir (doubt S x).2) 100)) (updG (sG S) (rt (sR S)) (drw (stir (doubt S x).2) 100, bitsY (sQ S) (sq S) (doubt S x).1 (drw (stir (doubt S x).2) 100), borY (sQ S) (sq S) (doubt S x).1 (drw (stir (doubt S x).2) 100))) (psh (sR S) (sA S)) (sI S)) ∧ _
  generalize stir (doubt S x).2 = x3 at *
  generalize drw x3 100 = rain at *
  generalize (doubt S x).2 = x0 at *
  generalize (doubt S x).1 = r1 at *
  have f3 : Fr dS σ2 (setL σ2 60 40 x3) := setL_fr
  have f13 : Fr dS σ1 (setL σ2 60 40 x3) := m2.tr f3
  have s3 : Sh (setL σ2 60 40 x3) := s2
  obtain ⟨p1, p2, p3, p4, p5⟩ := k4
  have k5' : LwM (setL σ2 60 40 x3) (sL S) (sH S) := k5.fr f13 rfl rfl (fun _ => ⟨rfl, rfl⟩) (k5.2.2.2.fr f13 (fun _ => ⟨rfl, rfl⟩))
  have p3' : LgM (setL σ2 60 40 x3) 71 (rt (sR S)) (sG S) := p3.fr f13 (fun j hj => by simp [dS]; omega)
  have p2' : RwM (setL σ2 60 40 x3) 71 (pn (sQ S)) r1 := m4
  obtain ⟨σ4, g1, g2, g3, g4, g5, g6⟩ := goYear_m hpd (qOf_B _ _) (w := 71) (.inl rfl) (rain := rain) a2 hdB a1 (by omega) (by omega) ⟨s3, k5'⟩ (p1.fr f13 rfl (fun _ => ⟨rfl, rfl⟩)) p2' p3'
  have fr : Fr mhX σ σ4 := ((k3.mono (fun a j e => reM_h e)).tr (f13.mono (fun a j e => dS_h e))).tr (g2.mono (fun a j e => y71_h e))
  have hrt3 : rt (yrY (sQ S) (sq S) r1 rain) = rt (sR S) + 1 := by rw [yrY_rt, hdr]
  refine ⟨σ4, ?_, g3.1, fr, hr.hs fr hw g3.2.2.2.2 ⟨(p1.fr f13 rfl (fun _ => ⟨rfl, rfl⟩)).fr g2 rfl (fun _ => ⟨rfl, rfl⟩), g4, by rw [hrt3]; exact g5, ?_, (p5.fr f13 rfl (fun _ => rfl)).fr g2 rfl (fun _ => rfl)⟩, ?_⟩
  · rw [m1]
    exact ym_end s2 dw3 g1
  · refine ((p4.fr f13 rfl (fun _ => rfl)).fr g2 rfl (fun _ => rfl)).lg (fun a ha y hy => updG_lo ?_)
    rcases psh_mem ha with e | e
    · rw [← e]; exact hy
    · exact Nat.lt_of_lt_of_le hy (a5.all a e)
  · rw [g2.l rfl]; exact ml_eq _ _ _ _
theorem ysS_pd {S : Sy} {x : Int64} (h : PdM N (JM (sL S) (sH S)) (sq S)) : PdM N (JM (sL (ysS S x)) (sH (ysS S x))) (sq (ysS S x)) := by
  unfold ysS
  exact pd_withH h
theorem years49_m {n : Nat} (hn : n ≤ 60) (dw : ∀ (y : Int64) (m : Nat) (τ : Me), Sh τ → ml τ 60 40 = y → 0 < m → m < 1000 → fc12_draw N 60 (nI m) τ = some (nI (drw (stir y) m), setL τ 60 40 (stir y))) : ∀ (m k fu : Nat) (p : Sy × Int64) (σ : Me), k + m = n → m < fu → Qm N σ p.1 → ml σ 60 40 = p.2 → rt (sR p.1) + m ≤ 999 →
    ∃ σ' : Me, fc12_years_49 N fu (some 60) (nI n) (nI k) σ = some (nI (rt (sR (itN ysP m p).1)), σ') ∧ Sh σ' ∧ Fr mhX σ σ' ∧ RM σ' (itN ysP m p).1 := by
  intro m
  induction m with
  | zero =>
    intro k fu p σ hk hfu hq hx ht
    obtain ⟨fu, rfl⟩ : ∃ f, fu = f + 1 := ⟨fu - 1, by omega⟩
    rw [itN_0]
    refine ⟨σ, ?_, hq.1, Fr.rf _ _, hq.2.1⟩
    have l25 := hq.2.1.2.2.2.2.1.2.1.2.1
    have r28 : qR σ 12 28 (some 60) = some (some 71) := by simp only [qR, PN hq.1, bnd]
    have q25 : ldI σ (some 71) 25 = some (nI (rt (sR p.1))) := by simp (disch := omega) only [y25, ldI_lo, A71 hq.1, bnd, nI_clamp, l25]
    rw [fc12_years_49, if_pos (nI_le (by omega) (by omega)), r28, bnd, q25, bnd]
  | succ m ih =>
    intro k fu p σ hk hfu hq hx ht
    obtain ⟨fu, rfl⟩ : ∃ f, fu = f + 1 := ⟨fu - 1, by omega⟩
    obtain ⟨S, x⟩ := p
    have hq : Qm N σ S := hq
    have hx : ml σ 60 40 = x := hx
    have ht : rt (sR S) + (m + 1) ≤ 999 := ht
    obtain ⟨σ1, e1, e2, e3, e4, e5⟩ := ym_one (fu := fu) hq hx (show k < n by omega) hn dw
    have hwS := ysS_ok (x := x) hq.2.2.1 hq.2.2.2.1 (by omega)
    have hpS := ysS_pd (x := x) hq.2.2.2.2.1
    have hd := doubt_rt S x
    rw [itN_s, ysP_eq]
    obtain ⟨f1, hxb, f3⟩ := ysS_facts S x
    have hx0 : pn (sQ (ysS S x)) ≠ 0 := by rw [f1]; exact hq.2.2.2.1
    have hxt : rt (sR (ysS S x)) + m ≤ 999 := by rw [f3, hd]; omega
    show ∃ σ' : Me, fc12_years_49 N (fu + 1) (some 60) (nI n) (nI k) σ = some (nI (rt (sR (itN ysP m (ysS S x, stir (doubt S x).2)).1)), σ') ∧ Sh σ' ∧ Fr mhX σ σ' ∧ RM σ' (itN ysP m (ysS S x, stir (doubt S x).2)).1
    rw [e1]
    generalize stir (doubt S x).2 = x3 at *
    generalize ysS S x = S' at *
    obtain ⟨σ', z1, z2, z3, z4⟩ := ih (k + 1) fu (S', x3) σ1 (by omega) (by omega) ⟨e2, e4, hwS, hx0, hpS, hq.2.2.2.2.2⟩ e5 hxt
    exact ⟨σ', z1, z2, e3.tr z3, z4⟩
theorem years_m {S : Sy} (h : Qm N σ S) {n : Nat} (h1 : 1 ≤ n) (hn : n ≤ 60) (ht : rt (sR S) + n ≤ 999) (x : Int64) : ∃ σ' : Me, fc12_years N 60 (nI n) x σ = some (nI (rt (sR (ysN n S x))), σ') ∧ Sh σ' ∧ Fr mhX σ σ' ∧ RM σ' (ysN n S x) := by
  have hq := h.th
  have b6 := h.2.2.1.n6
  have h0 := h.2.2.2.1
  have hN := h.2.2.2.2.2
  have f1 : Fr mX (setI σ 60 0 0) (setL (setI σ 60 0 0) 60 40 x) := fr_L rfl (Fr.rf _ _)
  have f1' : Fr (fun a _ => a == 60) (setI σ 60 0 0) (setL (setI σ 60 0 0) 60 40 x) := fr_L rfl (Fr.rf _ _)
  have hq1 : Qm N (setL (setI σ 60 0 0) 60 40 x) S := hq.fr f1 (hq.memo.fr f1' (fun _ => ⟨rfl, rfl⟩))
  obtain ⟨σ', z1, z2, z3, z4⟩ := years49_m (N := N) hn (fun y m τ hs hy h1 h2 => draw_m hs h1 h2 hy) n 0 N (S, x) (setL (setI σ 60 0 0) 60 40 x) (by omega) (by omega) hq1 (ml_eq _ _ _ _) ht
  refine ⟨σ', ?_, z2, (th0_fr.tr f1).mh.tr z3, z4⟩
  have z1 : fc12_years_49 N N (some 60) (nI n) (nI 0) (setL (setI σ 60 0 0) 60 40 x) = some (nI (rt (sR (ysN n S x))), σ') := z1
  rw [← z1]
  have d0 : ¬ nI (pn (sQ S)) = 0 := nI_ne0 (by omega) (by omega)
  have cc : ¬ (1 : Int32) = 0 := by decide
  have l24 : mi (setI σ 60 0 0) 60 24 = nI (pn (sQ S)) := hq.2.1.2.2.2.2.1.1.1
  have l25 : mi (setI σ 60 0 0) 71 25 = nI (rt (sR S)) := hq.2.1.2.2.2.2.1.2.1.2.1
  rw [fc12_years, th0 h.1, bnd]
  simp (disch := omega) only [qR, qI, pL, PN hq.1, bnd, l24, d0, in1_60_y h1 hn, cc, if_true, if_false, ↓reduceIte, and_true, true_and, and_false, false_and, not_true_eq_false, not_false_eq_true, and_self, y25, y999, ldI_lo, A71 hq.1, nI_clamp, l25, nI_add, nI_leI, ht]
  rfl
theorem years_mn {S : Sy} (h : Sh σ) (hr : RM σ S) (hw : WS S) {y : Int32} (hy : ¬ ∃ n : Nat, pn (sQ S) ≠ 0 ∧ 1 ≤ n ∧ n ≤ 60 ∧ rt (sR S) + n ≤ 999 ∧ y = nI n) (x : Int64) : fc12_years N 60 y x σ = some (-1, setI σ 60 0 0) := by
  have b6 := hw.n6
  have ht : Sh (setI σ 60 0 0) := h
  have hr1 := hr.th hw
  have l24 : mi (setI σ 60 0 0) 60 24 = nI (pn (sQ S)) := hr1.2.2.2.2.1.1.1
  have l25 : mi (setI σ 60 0 0) 71 25 = nI (rt (sR S)) := hr1.2.2.2.2.1.2.1.2.1
  have cc : ¬ (1 : Int32) = 0 := by decide
  rw [fc12_years, th0 h, bnd]
  by_cases h0 : pn (sQ S) = 0
  · rw [h0] at l24
    simp (disch := omega) only [qI, PN ht, bnd, l24, nI_0, if_true, if_false, ↓reduceIte, and_true, true_and, and_false, false_and, not_true_eq_false, not_false_eq_true, and_self]
  · have d0 : ¬ nI (pn (sQ S)) = 0 := nI_ne0 (by omega) (by omega)
    obtain ⟨a1, a2, a3, a4, -⟩ := hw.hs.yes h0
    by_cases c : ∃ j : Nat, 1 ≤ j ∧ j ≤ 60 ∧ y = nI j
    · obtain ⟨n, h1, hn, rfl⟩ := c
      have c4 : ¬ rt (sR S) + n ≤ 999 := fun e => hy ⟨n, h0, h1, hn, e, rfl⟩
      simp (disch := omega) only [qR, qI, PN ht, bnd, l24, d0, in1_60_y h1 hn, cc, if_true, if_false, ↓reduceIte, and_true, true_and, and_false, false_and, not_true_eq_false, not_false_eq_true, and_self, y25, y999, ldI_lo, A71 ht, nI_clamp, l25, nI_add, nI_leI, c4]
    · simp (disch := omega) only [qR, qI, PN ht, bnd, l24, d0, in1_60_n c, if_true, if_false, ↓reduceIte, and_true, true_and, and_false, false_and, not_true_eq_false, not_false_eq_true, and_self]
end MW
