/-! the reference's acts by hand, as they are called -/
theorem Chn.all : ∀ {l : List Rw} {t : Nat}, Chn t l → ∀ a ∈ l, rt a ≤ t
  | [], _, _, a, ha => absurd ha List.not_mem_nil
  | b :: l, t, h, a, ha => by
    rcases List.mem_cons.mp ha with e | e
    · rw [e]; exact h.1
    · exact Nat.le_trans (Chn.all h.2.2 a e) h.1
theorem AcM.lg {σ : Me} {n : Nat} {lg lg' : Lg} {acts : List Rw} (h : AcM σ n lg acts) (e : ∀ a ∈ acts, ∀ y, y < rt a → lg' y = lg y) : AcM σ n lg' acts :=
  ⟨h.1, fun i a ha => ⟨(h.2 i a ha).1, (h.2 i a ha).2.lg (e a (List.mem_of_getElem? ha))⟩⟩
theorem y71_h {a j : Nat} (h : mhX a j = false) : yS 71 a j = false := by
  simp only [mhX, mX, yS, oS, mS, Bool.or_eq_false_iff, Bool.and_eq_false_iff, decide_eq_false_iff_not, beq_eq_false_iff_ne] at h ⊢
  omega
theorem updG_lo {lg : Lg} {c y : Nat} {v : Nat × Nat × Nat} (h : y < c) : updG lg c v y = lg y := if_neg (by omega)
section MP
variable {N : Nat} {σ : Me}
theorem inL_y {j c : Nat} (hj : j < c) (hc : c ≤ 1000) : fc12_isIn N (Int32.toInt64 (nI j)) 0 (Int32.toInt64 (nI c - (1 : Int32))) σ = some (1, σ) := by
  have e1 : (nI c - (1 : Int32)).toInt = c - 1 := by rw [y1, pk_sub_toInt (by omega) (by omega)]; omega
  have e : (0 : Int64).toInt = 0 := rfl
  rw [isIn_m, Int32.toInt_toInt64, e1, nI_toInt (by omega), if_pos (by rw [e]; omega)]
theorem inL_n {x : Int32} {c : Nat} (hc : c ≤ 1000) (hx : ¬ ∃ j : Nat, j < c ∧ x = nI j) : fc12_isIn N (Int32.toInt64 x) 0 (Int32.toInt64 (nI c - (1 : Int32))) σ = some (0, σ) := by
  rw [y1, isIn_m, Int32.toInt_toInt64, pk_sub_toInt (by omega) (by omega), if_neg]
  rintro ⟨h1, h2⟩
  have e : (0 : Int64).toInt = 0 := rfl
  rw [e] at h1
  obtain ⟨j, hj, rfl⟩ := nI_of (x := x) (by
    rw [i_toInt_lt]
    have e : (0 : Int32).toInt = 0 := rfl
    omega)
  rw [nI_toInt hj] at h1 h2
  exact hx ⟨j, by omega, rfl⟩
/-- a year is kept and goes by -/
theorem goM {S : Sy} (h : Qm N σ S) {rain : Nat} (hrain : rain ≤ 99) : ∃ σ1 σ2 : Me, fc12_remember N 60 σ = some ((), σ1) ∧ Sh σ1 ∧ fc12_goYear N 60 (some 71) (nI rain) σ1 = some ((), σ2) ∧ Sh σ2 ∧ Fr mhX σ σ2 ∧ RM σ2 (yrS S rain) ∧ mi σ2 60 37 = nI (borY (sQ S) (sq S) (sR S) rain) := by
  obtain ⟨h1, h2, h3, h4, h5, h6⟩ := id h
  obtain ⟨a1, a2, a3, a4, a5, a6, a7, a8⟩ := h3.hs.yes h4
  obtain ⟨σ1, k1, k2, k3, k4, k5⟩ := remH (N := N) h1 h2 h3 h4 h6
  obtain ⟨p1, p2, p3, p4, p5⟩ := k4
  obtain ⟨σ2, g1, g2, g3, g4, g5, g6⟩ := goYear_m h5 (qOf_B _ _) (w := 71) (.inl rfl) a2 a3 a1 hrain (by omega) ⟨k2, k5⟩ p1 p2 p3
  have fr : Fr mhX σ σ2 := (k3.mono (fun a j e => reM_h e)).tr (g2.mono (fun a j e => y71_h e))
  refine ⟨σ1, σ2, k1, k2, g1, g3.1, fr, h2.hs fr h3 g3.2.2.2.2 ⟨p1.fr g2 rfl (fun _ => ⟨rfl, rfl⟩), g4, g5, ?_, p5.fr g2 rfl (fun _ => rfl)⟩, g6.2.1⟩
  refine (p4.fr g2 rfl (fun _ => rfl)).lg (fun a ha y hy => updG_lo ?_)
  rcases psh_mem ha with e | e
  · rw [← e]; exact hy
  · exact Nat.lt_of_lt_of_le hy (a5.all a e)
theorem year_m {S : Sy} (h : Qm N σ S) {rain : Nat} (hrain : rain ≤ 99) (ht : rt (sR S) < 999) : ∃ σ' : Me, fc12_year N 60 (nI rain) σ = some (nI (borY (sQ S) (sq S) (sR S) rain), σ') ∧ Sh σ' ∧ Fr mhX σ σ' ∧ RM σ' (yrS S rain) := by
  have hq := h.th
  obtain ⟨σ1, σ2, e1, e2, e3, e4, e5, e6, e7⟩ := goM hq hrain
  have b6 := h.2.2.1.n6
  have h0 := h.2.2.2.1
  refine ⟨σ2, ?_, e4, (th0_fr.mh).tr e5, e6⟩
  have cc : ¬ (1 : Int32) = 0 := by decide
  have c0 : ¬ nI (pn (sQ S)) = 0 := nI_ne0 (by omega) (by omega)
  have l24 : mi (setI σ 60 0 0) 60 24 = nI (pn (sQ S)) := hq.2.1.2.2.2.2.1.1.1
  have l25 : mi (setI σ 60 0 0) 71 25 = nI (rt (sR S)) := hq.2.1.2.2.2.2.1.2.1.2.1
  have c9 : ¬ rt (sR S) = 999 := by omega
  rw [fc12_year, th0 h.1, bnd]
  simp (disch := omega) only [qI, qR, PN hq.1, bnd, l24, c0, mrain_y hrain, cc, if_true, if_false, ↓reduceIte, and_true, true_and, and_false, false_and, not_true_eq_false, not_false_eq_true, and_self, y25, y999, ldI_lo, A71 hq.1, nI_clamp, l25, nI_eq, c9, e1, PN e2, e3, PN e4, e7]
theorem year_mn {S : Sy} (h : Sh σ) (hr : RM σ S) (hw : WS S) {x : Int32} (hx : ¬ ∃ rain : Nat, rain ≤ 99 ∧ x = nI rain ∧ pn (sQ S) ≠ 0 ∧ rt (sR S) < 999) : fc12_year N 60 x σ = some (-1, setI σ 60 0 0) := by
  have b6 := hw.n6
  have h1 : Sh (setI σ 60 0 0) := h
  have hr1 := hr.th hw
  have l24 : mi (setI σ 60 0 0) 60 24 = nI (pn (sQ S)) := hr1.2.2.2.2.1.1.1
  have l25 : mi (setI σ 60 0 0) 71 25 = nI (rt (sR S)) := hr1.2.2.2.2.1.2.1.2.1
  have cc : ¬ (1 : Int32) = 0 := by decide
  have ht : rt (sR S) ≤ 999 := by
    rcases hw.hs with e | e
    · omega
    · exact e.2.2.2.1
  rw [fc12_year, th0 h, bnd]
  by_cases c0 : pn (sQ S) = 0
  · rw [c0] at l24
    simp (disch := omega) only [qI, PN h1, bnd, l24, nI_0, if_true, if_false, ↓reduceIte, and_true, true_and, and_false, false_and, not_true_eq_false, not_false_eq_true, and_self]
  · have c0' : ¬ nI (pn (sQ S)) = 0 := nI_ne0 (by omega) (by omega)
    by_cases c1 : ∃ rain : Nat, rain ≤ 99 ∧ x = nI rain
    · obtain ⟨rain, c1, rfl⟩ := c1
      have c9 : rt (sR S) = 999 := by
        rcases Nat.lt_or_ge (rt (sR S)) 999 with e | e
        · exact absurd ⟨rain, c1, rfl, c0, e⟩ hx
        · omega
      rw [c9] at l25
      simp (disch := omega) only [qI, qR, PN h1, bnd, l24, c0', mrain_y c1, cc, if_true, if_false, ↓reduceIte, and_true, true_and, and_false, false_and, not_true_eq_false, not_false_eq_true, and_self, y25, y999, ldI_lo, A71 h1, nI_clamp, l25]
    · simp (disch := omega) only [qI, qR, PN h1, bnd, l24, c0', mrain_n c1, if_true, if_false, ↓reduceIte, and_true, true_and, and_false, false_and, not_true_eq_false, not_false_eq_true, and_self]
theorem sell_m {S : Sy} (h : Sh σ) (hr : RM σ S) (hw : WS S) (hN : 9000 ≤ N) {i j m : Nat} (hi : i < pn (sQ S)) (hj : j < pn (sQ S)) (hij : i ≠ j) (h1 : 1 ≤ m) (hm : m ≤ 20) (hs : saleB (sR S) i j m = true) : ∃ σ' : Me, fc12_sell N 60 (nI i) (nI j) (nI m) σ = some (nI (rc (rSell (sR S) i j m) i), σ') ∧ Sh σ' ∧ Fr mhX σ σ' ∧ RM σ' (acS S (rSell (sR S) i j m)) := by
  have h0 : pn (sQ S) ≠ 0 := by omega
  obtain ⟨a1, a2, a3, a4, a5, a6, a7, a8⟩ := hw.hs.yes h0
  have b6 := a2.1
  have ht : Sh (setI σ 60 0 0) := h
  have hr1 := hr.th hw
  obtain ⟨q1, q2, -⟩ := hr1.2.2.2.2.1
  obtain ⟨σ1, k1, k2, k3, k4, k5⟩ := remH (N := N) ht hr1 hw h0 hN
  obtain ⟨σ2, d1, d2, d3⟩ := sells_m (N := N) k2 (.inl rfl) k4.2.1 b6 a3 hi hj hij hm hs
  obtain ⟨e1, e2, e3⟩ := actM ht hr1 hw k3 k4 k5 d2 d3 rfl
  refine ⟨σ2, ?_, e1, th0_fr.mh.tr e2, e3⟩
  have cc : ¬ (1 : Int32) = 0 := by decide
  have isl := canSell_y (N := N) ht (.inl rfl) q1 q2 b6 a3 hi hj hij hm
  rw [if_pos hs] at isl
  have ec := (d3.2.2 i hi).2.2.2
  rw [fc12_sell, th0 h, bnd]
  simp (disch := omega) only [in1_20_y h1 hm, bnd, cc, if_true, if_false, ↓reduceIte, and_true, true_and, and_false, false_and, not_true_eq_false, not_false_eq_true, and_self, qR, PN ht, isl, k1, PN k2, d1, PN e1, i4, ip3, ldI_lo, A71 e1, nI_clamp, ec]
theorem sell_mn {S : Sy} (h : Sh σ) (hr : RM σ S) (hw : WS S) {x y z : Int32} (hx : ¬ ∃ i j m : Nat, i < pn (sQ S) ∧ j < pn (sQ S) ∧ i ≠ j ∧ 1 ≤ m ∧ m ≤ 20 ∧ saleB (sR S) i j m = true ∧ x = nI i ∧ y = nI j ∧ z = nI m) : fc12_sell N 60 x y z σ = some (-1, setI σ 60 0 0) := by
  have b6 := hw.n6
  have ht : Sh (setI σ 60 0 0) := h
  obtain ⟨q1, q2, -⟩ := (hr.th hw).2.2.2.2.1
  have cc : ¬ (1 : Int32) = 0 := by decide
  rw [fc12_sell, th0 h, bnd]
  by_cases hz : ∃ m : Nat, 1 ≤ m ∧ m ≤ 20 ∧ z = nI m
  · obtain ⟨m, h1, hm, rfl⟩ := hz
    by_cases hp : ∃ i j : Nat, i < pn (sQ S) ∧ j < pn (sQ S) ∧ i ≠ j ∧ x = nI i ∧ y = nI j
    · obtain ⟨i, j, hi, hj, hij, rfl, rfl⟩ := hp
      obtain ⟨a1, a2, a3, -⟩ := hw.hs.yes (show pn (sQ S) ≠ 0 by omega)
      have isl := canSell_y (N := N) ht (.inl rfl) q1 q2 b6 a3 hi hj hij hm
      rw [if_neg (fun hs => hx ⟨i, j, m, hi, hj, hij, h1, hm, hs, rfl, rfl, rfl⟩)] at isl
      simp (disch := omega) only [in1_20_y h1 hm, bnd, cc, if_true, if_false, ↓reduceIte, and_true, true_and, and_false, false_and, not_true_eq_false, not_false_eq_true, and_self, qR, PN ht, isl]
    · simp (disch := omega) only [in1_20_y h1 hm, bnd, cc, if_true, if_false, ↓reduceIte, and_true, true_and, and_false, false_and, not_true_eq_false, not_false_eq_true, and_self, qR, PN ht, canSell_n ht q1 b6 hp]
  · simp (disch := omega) only [in1_20_n hz, bnd, if_true, if_false, ↓reduceIte, and_true, true_and, and_false, false_and, not_true_eq_false, not_false_eq_true, and_self]
theorem forgive_m {S : Sy} (h : Sh σ) (hr : RM σ S) (hw : WS S) (hN : 9000 ≤ N) {i m : Nat} (hi : i < pn (sQ S)) (h1 : 1 ≤ m) (hm : m ≤ 20) (hs : m ≤ ro (sR S) i) : ∃ σ' : Me, fc12_forgive N 60 (nI i) (nI m) σ = some (nI (ro (rMist (sR S) i m) i), σ') ∧ Sh σ' ∧ Fr mhX σ σ' ∧ RM σ' (acS S (rMist (sR S) i m)) := by
  have h0 : pn (sQ S) ≠ 0 := by omega
  obtain ⟨a1, a2, a3, a4, a5, a6, a7, a8⟩ := hw.hs.yes h0
  have b6 := a2.1
  have ht : Sh (setI σ 60 0 0) := h
  have hr1 := hr.th hw
  obtain ⟨q1, q2, -⟩ := hr1.2.2.2.2.1
  obtain ⟨σ1, k1, k2, k3, k4, k5⟩ := remH (N := N) ht hr1 hw h0 hN
  obtain ⟨σ2, d1, d2, d3⟩ := forgives_m (N := N) k2 (.inl rfl) k4.1 k4.2.1 b6 a3 hi hs (by omega)
  obtain ⟨e1, e2, e3⟩ := actM ht hr1 hw k3 k4 k5 d2 d3 rfl
  refine ⟨σ2, ?_, e1, th0_fr.mh.tr e2, e3⟩
  have cc : ¬ (1 : Int32) = 0 := by decide
  have ec := (d3.2.2 i hi).1
  rw [fc12_forgive, th0 h, bnd]
  simp (disch := omega) only [bnd, cc, if_true, if_false, ↓reduceIte, and_true, true_and, and_false, false_and, not_true_eq_false, not_false_eq_true, and_self, qR, PN ht, canForgive_y ht (.inl rfl) q1 q2 b6 a3 hi h1 hm hs, k1, PN k2, d1, PN e1, i4, ip0, ldI_lo, A71 e1, nI_clamp, ec]
theorem forgive_mn {S : Sy} (h : Sh σ) (hr : RM σ S) (hw : WS S) {x y : Int32} (hx : ¬ ∃ i m : Nat, i < pn (sQ S) ∧ 1 ≤ m ∧ m ≤ 20 ∧ m ≤ ro (sR S) i ∧ x = nI i ∧ y = nI m) : fc12_forgive N 60 x y σ = some (-1, setI σ 60 0 0) := by
  have b6 := hw.n6
  have ht : Sh (setI σ 60 0 0) := h
  obtain ⟨q1, q2, -⟩ := (hr.th hw).2.2.2.2.1
  rw [fc12_forgive, th0 h, bnd]
  by_cases h0 : pn (sQ S) = 0
  · have q : x < 0 ∨ nI (pn (sQ S)) ≤ x := by
      rcases nix x (n := pn (sQ S)) (by omega) with q | ⟨j, hj, -⟩
      · exact q
      · omega
    simp (disch := omega) only [fc12_canForgive, bnd, qR, PN ht, mfield_n ht q1.1 q, if_true, if_false, ↓reduceIte, and_true, true_and, and_false, false_and, not_true_eq_false, not_false_eq_true, and_self, retZ0]
  · obtain ⟨a1, a2, a3, -⟩ := hw.hs.yes h0
    simp (disch := omega) only [bnd, qR, PN ht, canForgive_n ht (.inl rfl) q1 q2 b6 a3 hx, if_true, if_false, ↓reduceIte, and_true, true_and, and_false, false_and, not_true_eq_false, not_false_eq_true, and_self]
theorem hedge_m {S : Sy} (h : Sh σ) (hr : RM σ S) (hw : WS S) (hN : 9000 ≤ N) {i : Nat} (hi : i + 1 < pn (sQ S)) (hs : hedgeB (sR S) i = true) : ∃ σ' : Me, fc12_hedge N 60 (nI i) σ = some (nI (ro (rHedge (sR S) i) i), σ') ∧ Sh σ' ∧ Fr mhX σ σ' ∧ RM σ' (acS S (rHedge (sR S) i)) := by
  have h0 : pn (sQ S) ≠ 0 := by omega
  obtain ⟨a1, a2, a3, a4, a5, a6, a7, a8⟩ := hw.hs.yes h0
  have b6 := a2.1
  have ht : Sh (setI σ 60 0 0) := h
  have hr1 := hr.th hw
  obtain ⟨q1, q2, -⟩ := hr1.2.2.2.2.1
  obtain ⟨σ1, k1, k2, k3, k4, k5⟩ := remH (N := N) ht hr1 hw h0 hN
  obtain ⟨σ2, d1, d2, d3⟩ := hedges_m (N := N) k2 (.inl rfl) k4.2.1 b6 hi (by omega)
  obtain ⟨e1, e2, e3⟩ := actM ht hr1 hw k3 k4 k5 d2 d3 rfl
  refine ⟨σ2, ?_, e1, th0_fr.mh.tr e2, e3⟩
  have cc : ¬ (1 : Int32) = 0 := by decide
  have ih := canHedge_y (N := N) ht (.inl rfl) q1 q2 b6 a3 hi
  rw [if_pos hs] at ih
  have ec := (d3.2.2 i (by omega)).1
  rw [fc12_hedge, th0 h, bnd]
  simp (disch := omega) only [bnd, cc, if_true, if_false, ↓reduceIte, and_true, true_and, and_false, false_and, not_true_eq_false, not_false_eq_true, and_self, qR, PN ht, ih, k1, PN k2, d1, PN e1, i4, ip0, ldI_lo, A71 e1, nI_clamp, ec]
theorem hedge_mn {S : Sy} (h : Sh σ) (hr : RM σ S) (hw : WS S) {x : Int32} (hx : ¬ ∃ i : Nat, i + 1 < pn (sQ S) ∧ hedgeB (sR S) i = true ∧ x = nI i) : fc12_hedge N 60 x σ = some (-1, setI σ 60 0 0) := by
  have b6 := hw.n6
  have ht : Sh (setI σ 60 0 0) := h
  obtain ⟨q1, q2, -⟩ := (hr.th hw).2.2.2.2.1
  rw [fc12_hedge, th0 h, bnd]
  by_cases hp : ∃ i : Nat, i + 1 < pn (sQ S) ∧ x = nI i
  · obtain ⟨i, hi, rfl⟩ := hp
    obtain ⟨a1, a2, a3, -⟩ := hw.hs.yes (show pn (sQ S) ≠ 0 by omega)
    have ih := canHedge_y (N := N) ht (.inl rfl) q1 q2 b6 a3 hi
    rw [if_neg (fun e => hx ⟨i, hi, e, rfl⟩)] at ih
    simp (disch := omega) only [bnd, qR, PN ht, ih, if_true, if_false, ↓reduceIte, and_true, true_and, and_false, false_and, not_true_eq_false, not_false_eq_true, and_self]
  · simp (disch := omega) only [bnd, qR, PN ht, canHedge_n ht q1 b6 hp, if_true, if_false, ↓reduceIte, and_true, true_and, and_false, false_and, not_true_eq_false, not_false_eq_true, and_self]
theorem can_m {S : Sy} (h : Sh σ) (hr : RM σ S) (hw : WS S) (hN : 9000 ≤ N) {i : Nat} (hi : i < pn (sQ S)) (hs : canB (sR S) i = true) : ∃ σ' : Me, fc12_can N 60 (nI i) σ = some (nI (rw_ (rCan (sR S) i) i), σ') ∧ Sh σ' ∧ Fr mhX σ σ' ∧ RM σ' (acS S (rCan (sR S) i)) := by
  have h0 : pn (sQ S) ≠ 0 := by omega
  obtain ⟨a1, a2, a3, a4, a5, a6, a7, a8⟩ := hw.hs.yes h0
  have b6 := a2.1
  have ht : Sh (setI σ 60 0 0) := h
  have hr1 := hr.th hw
  obtain ⟨q1, q2, -⟩ := hr1.2.2.2.2.1
  obtain ⟨σ1, k1, k2, k3, k4, k5⟩ := remH (N := N) ht hr1 hw h0 hN
  obtain ⟨σ2, d1, d2, d3⟩ := fills_m (N := N) k2 (.inl rfl) k4.2.1 b6 a3 hi hs
  obtain ⟨e1, e2, e3⟩ := actM ht hr1 hw k3 k4 k5 d2 d3 rfl
  refine ⟨σ2, ?_, e1, th0_fr.mh.tr e2, e3⟩
  have cc : ¬ (1 : Int32) = 0 := by decide
  have ih := canFill_y (N := N) ht (.inl rfl) q1 q2 b6 a3 hi
  rw [if_pos hs] at ih
  have ec := (d3.2.2 i hi).2.2.1
  rw [fc12_can, th0 h, bnd]
  simp (disch := omega) only [bnd, cc, if_true, if_false, ↓reduceIte, and_true, true_and, and_false, false_and, not_true_eq_false, not_false_eq_true, and_self, qR, PN ht, ih, k1, PN k2, d1, PN e1, i4, ip2, ldI_lo, A71 e1, nI_clamp, ec]
theorem can_mn {S : Sy} (h : Sh σ) (hr : RM σ S) (hw : WS S) {x : Int32} (hx : ¬ ∃ i : Nat, i < pn (sQ S) ∧ canB (sR S) i = true ∧ x = nI i) : fc12_can N 60 x σ = some (-1, setI σ 60 0 0) := by
  have b6 := hw.n6
  have ht : Sh (setI σ 60 0 0) := h
  obtain ⟨q1, q2, -⟩ := (hr.th hw).2.2.2.2.1
  rw [fc12_can, th0 h, bnd]
  rcases nix x (n := pn (sQ S)) (by omega) with q | ⟨i, hi, rfl⟩
  · simp (disch := omega) only [bnd, qR, PN ht, canFill_n ht q1 q, if_true, if_false, ↓reduceIte, and_true, true_and, and_false, false_and, not_true_eq_false, not_false_eq_true, and_self]
  · obtain ⟨a1, a2, a3, -⟩ := hw.hs.yes (show pn (sQ S) ≠ 0 by omega)
    have ih := canFill_y (N := N) ht (.inl rfl) q1 q2 b6 a3 hi
    rw [if_neg (fun e => hx ⟨i, hi, e, rfl⟩)] at ih
    simp (disch := omega) only [bnd, qR, PN ht, ih, if_true, if_false, ↓reduceIte, and_true, true_and, and_false, false_and, not_true_eq_false, not_false_eq_true, and_self]
theorem price_m {S : Sy} (h : Sh σ) (hr : RM σ S) (hw : WS S) (hN : 9000 ≤ N) (h0 : pn (sQ S) ≠ 0) {v : Nat} (hv : v ≤ 30) (hne : v ≠ rp (sR S)) : ∃ σ' : Me, fc12_price N 60 (nI v) σ = some (nI (rp (sR S)), σ') ∧ Sh σ' ∧ Fr mhX σ σ' ∧ RM σ' (acS S (rPrice (sR S) v)) := by
  obtain ⟨a1, a2, a3, a4, a5, a6, a7, a8⟩ := hw.hs.yes h0
  have b6 := a2.1
  have ht : Sh (setI σ 60 0 0) := h
  have hr1 := hr.th hw
  obtain ⟨q1, q2, -⟩ := hr1.2.2.2.2.1
  obtain ⟨σ1, k1, k2, k3, k4, k5⟩ := remH (N := N) ht hr1 hw h0 hN
  have d2 : Fr (rS 71) σ1 (setI σ1 71 24 (nI v)) := fr_I rfl (Fr.rf _ _)
  have d3 : RwM (setI σ1 71 24 (nI v)) 71 (pn (sQ S)) (rPrice (sR S) v) := by
    obtain ⟨l1, l2, lf⟩ := k4.2.1
    refine ⟨mi_eq _ _ _ _, ?_, fun f hf => ?_⟩
    · rw [mi_ne _ _ (by omega)]; exact l2
    · rw [mi_ne _ _ (by omega), mi_ne _ _ (by omega), mi_ne _ _ (by omega), mi_ne _ _ (by omega)]
      exact lf f hf
  obtain ⟨e1, e2, e3⟩ := actM ht hr1 hw k3 k4 k5 d2 d3 rfl
  refine ⟨_, ?_, e1, th0_fr.mh.tr e2, e3⟩
  have cc : ¬ (1 : Int32) = 0 := by decide
  have c0 : ¬ nI (pn (sQ S)) = 0 := nI_ne0 (by omega) (by omega)
  have hp := a3.1
  have hne' : ¬ rp (sR S) = v := fun e => hne e.symm
  have l24 := q2.1
  have l24' := k4.2.1.1
  rw [fc12_price, th0 h, bnd]
  simp (disch := omega) only [bnd, qI, qR, PN ht, q1.1, c0, cc, if_true, if_false, ↓reduceIte, and_true, true_and, and_false, false_and, not_true_eq_false, not_false_eq_true, and_self, in0_30_y (Nat.zero_le v) hv, y24, ldI_lo, A71 ht, nI_clamp, l24, nI_eq, hne', k1, PN k2, A71 k2, l24', stI]
theorem price_mn {S : Sy} (h : Sh σ) (hr : RM σ S) (hw : WS S) {x : Int32} (hx : ¬ ∃ v : Nat, pn (sQ S) ≠ 0 ∧ v ≤ 30 ∧ v ≠ rp (sR S) ∧ x = nI v) : fc12_price N 60 x σ = some (-1, setI σ 60 0 0) := by
  have b6 := hw.n6
  have ht : Sh (setI σ 60 0 0) := h
  obtain ⟨q1, q2, -⟩ := (hr.th hw).2.2.2.2.1
  have cc : ¬ (1 : Int32) = 0 := by decide
  rw [fc12_price, th0 h, bnd]
  by_cases h0 : pn (sQ S) = 0
  · have hn := q1.1
    rw [h0] at hn
    simp (disch := omega) only [bnd, qI, PN ht, hn, nI_0, if_true, if_false, ↓reduceIte, and_true, true_and, and_false, false_and, not_true_eq_false, not_false_eq_true, and_self]
  · have c0 : ¬ nI (pn (sQ S)) = 0 := nI_ne0 (by omega) (by omega)
    by_cases hv : ∃ j : Nat, 0 ≤ j ∧ j ≤ 30 ∧ x = nI j
    · obtain ⟨v, -, hv, rfl⟩ := hv
      have c3 : v = rp (sR S) := by
        rcases Nat.decEq v (rp (sR S)) with e | e
        · exact absurd ⟨v, h0, hv, e, rfl⟩ hx
        · exact e
      have l24 := q2.1
      rw [← c3] at l24
      simp (disch := omega) only [bnd, qI, qR, PN ht, q1.1, c0, cc, if_true, if_false, ↓reduceIte, and_true, true_and, and_false, false_and, not_true_eq_false, not_false_eq_true, and_self, in0_30_y (Nat.zero_le v) hv, y24, ldI_lo, A71 ht, nI_clamp, l24]
    · simp (disch := omega) only [bnd, qI, PN ht, q1.1, c0, if_true, if_false, ↓reduceIte, and_true, true_and, and_false, false_and, not_true_eq_false, not_false_eq_true, and_self, in0_30_n hv]
end MP
