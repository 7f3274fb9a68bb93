/-! games in the reference -/
theorem f72_y {a j : Nat} (h : yS 72 a j = false) : (a == 72) = false := by
  simp only [yS, Bool.or_eq_false_iff] at h; exact h.1.2
theorem rS_y {a j : Nat} (h : yS 72 a j = false) : rS 72 a j = false := by
  have := f72_y h
  simp only [rS, this, Bool.false_and]
theorem rPlay_owe (r : Rw) (i j x y : Nat) : rPlay r i j x y = rOwe (rOwe r i (ro r i - x)) j (ro r j - y) := rfl
section MG
variable {N : Nat} {σ : Me} {S : Sy}
theorem set72 {n : Nat} {r : Rw} {f x : Nat} (hL : RwM σ 72 n r) (h6 : n ≤ 6) (hf : f < n) : RwM (setI σ 72 (4 * f) (nI x)) 72 n (rOwe r f x) := by
  obtain ⟨l1, l2, lf⟩ := hL
  refine ⟨by rw [mi_ne _ _ (by omega)]; exact l1, by rw [mi_ne _ _ (by omega)]; exact l2, fun k hk => ?_⟩
  obtain ⟨g1, g2, g3, g4⟩ := lf k hk
  rw [mi_ne (i := 4 * f) (j := 4 * k + 1) _ _ (by omega), mi_ne (i := 4 * f) (j := 4 * k + 2) _ _ (by omega), mi_ne (i := 4 * f) (j := 4 * k + 3) _ _ (by omega)]
  refine ⟨?_, g2, g3, g4⟩
  rw [ro_owe]
  by_cases e : k = f
  · subst e; rw [if_pos rfl, mi_eq]
  · rw [if_neg e, mi_ne _ _ (by omega)]; exact g1
theorem set72_fr {f : Nat} {x : Int32} (hf : f < 6) : Fr (rS 72) σ (setI σ 72 (4 * f) x) := fr_I (by simp [rS]; omega) (Fr.rf _ _)
/-- a year of the trial that was altered -/
theorem Qm.alter (h : Qm N σ S) {σ2 : Me} {r1 r2 : Rw} (hT : TrM σ (sQ S) r1) (f : Fr (rS 72) σ σ2) (hr2 : RwM σ2 72 (pn (sQ S)) r2) (hB : RwB (pn (sQ S)) r2) {rain : Nat} (hr : rain ≤ 99) : ∃ σ3 : Me, fc12_goYear N 60 (some 72) (nI rain) σ2 = some ((), σ3) ∧ Fr (yS 72) σ σ3 ∧ Fr mX σ σ3 ∧ Qm N σ2 S ∧ Qm N σ3 S ∧ TrM σ3 (sQ S) (yrY (sQ S) (sq S) r2 rain) ∧ YkM σ3 (sQ S) (sq S) r2 rain := by
  have hq2 := h.row f
  obtain ⟨σ3, g1, g2, g3, g4, g5, g6⟩ := hq2.year (hT.row f hr2) hB hr
  exact ⟨σ3, g1, (f.mono (fun a j e => rS_y e)).tr g3, (f.mono (fun a j e => rS_m e)).tr g2, hq2, g4, g5, g6⟩
theorem mx0 (N : Nat) (σ : Me) {a b : Nat} (ha : a ≤ 5000) (hb : b ≤ 5000) : fMt_max N (0 : Int32) (nI a - nI b) σ = some (nI (a - b), σ) := by
  by_cases h : b ≤ a
  · rw [pk_sub h, y0, max_N N σ (by decide) (by omega), Nat.max_eq_right (Nat.zero_le _)]
  · unfold fMt_max
    have h2 : ¬ (0 : Int32) < nI a - nI b := by
      rw [i_toInt_lt, pk_sub_toInt (by omega) (by omega), show (0 : Int32).toInt = 0 from rfl]; omega
    rw [if_neg h2, show a - b = 0 by omega]
    rfl
theorem gameOf_m (h : Qm N σ S) {i j rain x y w : Nat} (hi : i < pn (sQ S)) (hj : j < pn (sQ S)) (hij : i ≠ j) (hr : rain ≤ 99) (hx : x < 6) (hy : y < 6) (hw : w ≤ 1) : ∃ σ' : Me, fc12_gameOf N 60 (nI i) (nI j) (nI rain) (nI x) (nI y) (nI w) σ = some (if w = 0 then gn1 (sQ S) (sq S) (sR S) i j rain x y else gn2 (sQ S) (sq S) (sR S) i j rain x y, σ') ∧ Fr (yS 72) σ σ' ∧ Fr mX σ σ' ∧ Qm N σ' S := by
  obtain ⟨a1, a2, a3, a4, -⟩ := h.2.2.1.hs.yes h.2.2.2.1
  have b6 := a2.1
  obtain ⟨σ1, c1, c2, c2', c3, c4⟩ := h.copy
  have e1 := (c4.1.2.2 i hi).1
  have e2 := (c4.1.2.2 j hj).1
  have b1 := (a3.2.2 i hi).1
  have b2 := (a3.2.2 j hj).1
  have f2 : Fr (rS 72) σ1 (setI (setI σ1 72 (4 * i) (nI (ro (sR S) i - x))) 72 (4 * j) (nI (ro (sR S) j - y))) := (set72_fr (by omega)).tr (set72_fr (by omega))
  have hL2 : RwM (setI (setI σ1 72 (4 * i) (nI (ro (sR S) i - x))) 72 (4 * j) (nI (ro (sR S) j - y))) 72 (pn (sQ S)) (rPlay (sR S) i j x y) := by
    rw [rPlay_owe]
    exact set72 (set72 c4.1 b6 hi) b6 hj
  obtain ⟨σ3, g1, g2, g3, g4, g5, g6, g7⟩ := c3.alter c4 f2 hL2 (a3.play hi hj) hr
  refine ⟨σ3, ?_, (c2'.mono (fun a j e => f72_y e)).tr g2, c2.tr g3, g5⟩
  have s1 := c3.1
  have e2' : mi (setI σ1 72 (4 * i) (nI (ro (sR S) i - x))) 72 (4 * j) = nI (ro (sR S) j) := by rw [mi_ne _ _ (by omega)]; exact e2
  have m1 := mx0 N σ1 (a := ro (sR S) i) (b := x) (by omega) (by omega)
  have m2 := mx0 N (setI σ1 72 (4 * i) (nI (ro (sR S) i - x))) (a := ro (sR S) j) (b := y) (by omega) (by omega)
  have x1 : fc12_gameOf N 60 (nI i) (nI j) (nI rain) (nI x) (nI y) (nI w) σ = (if nI w = 0 then
    (qR σ3 12 35 (some 60)).bind fun v80 =>
    (ldI σ3 v80 (nI i)).bind fun v84 =>
    some ((v84 - nI x), σ3)
  else
    (qR σ3 12 35 (some 60)).bind fun v92 =>
    (ldI σ3 v92 (nI j)).bind fun v96 =>
    some ((v96 - nI y), σ3)) := by
    simp (disch := omega) only [fc12_gameOf, qR, PN h.1, bnd, c1, PN s1, i4, ip0, ldI_lo, A72 s1, nI_clamp, e1, m1, stI, dr_setI, mr_setI, arr_setI, e2', m2, g1]
  rw [x1]
  have k1 := (g7.2.2 i hi).2
  have k2 := (g7.2.2 j hj).2
  by_cases hw0 : w = 0
  · subst hw0
    rw [if_pos (show nI 0 = (0 : Int32) from rfl), if_pos rfl]
    simp (disch := omega) only [qR, PN g5.1, bnd, ldI_lo, A76 g5.1, nI_clamp, k1, gn1]
  · rw [if_neg (nI_ne0 (by omega) (by omega)), if_neg hw0]
    simp (disch := omega) only [qR, PN g5.1, bnd, ldI_lo, A76 g5.1, nI_clamp, k2, gn2]
theorem isGame_y (h : Sh σ) {P : Pl} (hn : mi σ 60 24 = nI (pn P)) (b6 : pn P ≤ 6) {i j rain : Nat} (hi : i < pn P) (hj : j < pn P) (hij : i ≠ j) (hr : rain ≤ 99) : fc12_isGame N 60 (nI i) (nI j) (nI rain) σ = some (1, σ) := by
  simp (disch := omega) only [fc12_isGame, PN h, bnd, mfield_y h hn b6 hi, mfield_y h hn b6 hj, one0, nI_eq, hij, mrain_y hr, if_true, if_false, ↓reduceIte, and_true, true_and, and_false, false_and, not_true_eq_false, not_false_eq_true, and_self, retZ1]
theorem isGame_n (h : Sh σ) {P : Pl} (hn : mi σ 60 24 = nI (pn P)) (b6 : pn P ≤ 6) {x y z : Int32} (hx : ¬ ∃ i j rain : Nat, i < pn P ∧ j < pn P ∧ i ≠ j ∧ rain ≤ 99 ∧ x = nI i ∧ y = nI j ∧ z = nI rain) : fc12_isGame N 60 x y z σ = some (0, σ) := by
  rcases nix x (n := pn P) (by omega) with q | ⟨i, hi, rfl⟩
  · simp (disch := omega) only [fc12_isGame, PN h, bnd, mfield_n h hn q, if_true, if_false, ↓reduceIte, and_true, true_and, and_false, false_and, not_true_eq_false, not_false_eq_true, and_self, retZ0]
  · rcases nix y (n := pn P) (by omega) with q | ⟨j, hj, rfl⟩
    · simp (disch := omega) only [fc12_isGame, PN h, bnd, mfield_y h hn b6 hi, mfield_n h hn q, one0, if_true, if_false, ↓reduceIte, and_true, true_and, and_false, false_and, not_true_eq_false, not_false_eq_true, and_self, retZ0]
    · by_cases hij : i = j
      · subst hij
        simp (disch := omega) only [fc12_isGame, PN h, bnd, mfield_y h hn b6 hi, one0, if_true, if_false, ↓reduceIte, and_true, true_and, and_false, false_and, not_true_eq_false, not_false_eq_true, and_self, retZ0]
      · simp (disch := omega) only [fc12_isGame, PN h, bnd, mfield_y h hn b6 hi, mfield_y h hn b6 hj, one0, nI_eq, hij, mrain_n (x := z) (fun ⟨k, e1, e2⟩ => hx ⟨i, j, k, hi, hj, hij, e1, rfl, rfl, e2⟩), if_true, if_false, ↓reduceIte, and_true, true_and, and_false, false_and, not_true_eq_false, not_false_eq_true, and_self, retZ0]
theorem game_m (h : Qm N σ S) {i j rain x y w : Nat} (hi : i < pn (sQ S)) (hj : j < pn (sQ S)) (hij : i ≠ j) (hr : rain ≤ 99) (hx : x < 6) (hy : y < 6) (hw : w ≤ 1) : Am S σ (if w = 0 then nI (brnY (sQ S) (sq S) (rPlay (sR S) i j x y) rain i) - nI x else nI (brnY (sQ S) (sq S) (rPlay (sR S) i j x y) rain j) - nI y) (fc12_game N 60 (nI i) (nI j) (nI rain) (nI x) (nI y) (nI w) σ) := by
  have hq := h.th
  have b6 := h.2.2.1.n6
  obtain ⟨σ1, g1, -, g2, g3⟩ := gameOf_m hq hi hj hij hr hx hy hw
  refine Am.of ?_ g2 g3
  rw [fc12_game, th0 h.1, bnd]
  simp (disch := omega) only [PN hq.1, bnd, isGame_y hq.1 hq.n24 b6 hi hj hij hr, in0_5_y (Nat.zero_le x) (show x ≤ 5 by omega), in0_5_y (Nat.zero_le y) (show y ≤ 5 by omega), in0_1_y (Nat.zero_le w) hw, one0, if_true, if_false, ↓reduceIte, and_true, true_and, and_false, false_and, not_true_eq_false, not_false_eq_true, and_self, g1]
  rfl
theorem game_mn (h : Sh σ) (hr : RM σ S) (hw : WS S) {x1 x2 x3 x4 x5 x6 : Int32} (hx : ¬ ∃ i j rain x y w : Nat, i < pn (sQ S) ∧ j < pn (sQ S) ∧ i ≠ j ∧ rain ≤ 99 ∧ x < 6 ∧ y < 6 ∧ w ≤ 1 ∧ x1 = nI i ∧ x2 = nI j ∧ x3 = nI rain ∧ x4 = nI x ∧ x5 = nI y ∧ x6 = nI w) : fc12_game N 60 x1 x2 x3 x4 x5 x6 σ = some (-1000000, setI σ 60 0 0) := by
  have b6 := hw.n6
  have ht : Sh (setI σ 60 0 0) := h
  have hn := (hr.th hw).n24
  rw [fc12_game, th0 h, bnd]
  by_cases hp : ∃ i j rain : Nat, i < pn (sQ S) ∧ j < pn (sQ S) ∧ i ≠ j ∧ rain ≤ 99 ∧ x1 = nI i ∧ x2 = nI j ∧ x3 = nI rain
  · obtain ⟨i, j, rain, hi, hj, hij, hrn, rfl, rfl, rfl⟩ := hp
    by_cases c4 : ∃ k : Nat, 0 ≤ k ∧ k ≤ 5 ∧ x4 = nI k
    · obtain ⟨x, -, hx4, rfl⟩ := c4
      by_cases c5 : ∃ k : Nat, 0 ≤ k ∧ k ≤ 5 ∧ x5 = nI k
      · obtain ⟨y, -, hx5, rfl⟩ := c5
        simp (disch := omega) only [PN ht, bnd, isGame_y ht hn b6 hi hj hij hrn, in0_5_y (Nat.zero_le x) hx4, in0_5_y (Nat.zero_le y) hx5, in0_1_n (x := x6) (fun ⟨k, _, e1, e2⟩ => hx ⟨i, j, rain, x, y, k, hi, hj, hij, hrn, by omega, by omega, e1, rfl, rfl, rfl, rfl, rfl, e2⟩), one0, if_true, if_false, ↓reduceIte, and_true, true_and, and_false, false_and, not_true_eq_false, not_false_eq_true, and_self, fc12_game_68]
      · simp (disch := omega) only [PN ht, bnd, isGame_y ht hn b6 hi hj hij hrn, in0_5_y (Nat.zero_le x) hx4, in0_5_n c5, one0, if_true, if_false, ↓reduceIte, and_true, true_and, and_false, false_and, not_true_eq_false, not_false_eq_true, and_self, fc12_game_68]
    · simp (disch := omega) only [PN ht, bnd, isGame_y ht hn b6 hi hj hij hrn, in0_5_n c4, one0, if_true, if_false, ↓reduceIte, and_true, true_and, and_false, false_and, not_true_eq_false, not_false_eq_true, and_self, fc12_game_68]
  · simp (disch := omega) only [PN ht, bnd, isGame_n ht hn b6 hp, if_true, if_false, ↓reduceIte, and_true, true_and, and_false, false_and, not_true_eq_false, not_false_eq_true, and_self, fc12_game_68]
/-! rests -/
def GtM (σ : Me) (g1 g2 : Nat → Nat → Int32) : Prop := ∀ x y, x < 6 → y < 6 → mi σ 82 (12 * x + 2 * y) = g1 x y ∧ mi σ 82 (12 * x + 2 * y + 1) = g2 x y
theorem rests98_m (h : Sh σ) {g1 g2 : Nat → Nat → Int32} (hg : GtM σ g1 g2) {K75 : Option Nat → Int32 → Int32 → Int32 → Me → Option (Int32 × Me)} {K85 : Option Nat → Int32 → Int32 → Int32 → Int32 → Me → Option (Int32 × Me)} {i4 : Int32} {n x y : Nat} (hx : x < 6) (hy : y < 6) (hn : n ≤ 100) :
    ∀ (m k fu : Nat) (b : Bool), k + m = 6 → m < fu → fc12_rests_98 N K75 K85 fu (some 60) i4 (nI n) (nI x) (nI y) (bI b) (nI k) σ = if (b && rsB g1 g2 x y m k) = true then (if nI n = i4 then some (nI (10 * x + y), σ) else K85 (some 60) i4 (nI (n + 1)) (nI x) (nI (y + 1)) σ) else K85 (some 60) i4 (nI n) (nI x) (nI (y + 1)) σ := by
  intro m
  induction m with
  | zero =>
    intro k fu b hk hfu
    obtain ⟨fu, rfl⟩ : ∃ f, fu = f + 1 := ⟨fu - 1, by omega⟩
    have ix : ((10 : Int32) * nI x) + nI y = nI (10 * x + y) := by rw [y10, pk_mul, nI_add]
    rw [fc12_rests_98, y6, if_pos (nI_le (by omega) (by omega)), rsB, Bool.and_true]
    cases b with
    | true =>
      rw [bI_t, if_neg one0, if_pos rfl, ix]
      simp only [fc12_rests_220, nI_1]
    | false =>
      rw [bI_f, if_pos rfl, if_neg (by decide)]
      simp only [fc12_rests_220, nI_1]
  | succ m ih =>
    intro k fu b hk hfu
    obtain ⟨fu, rfl⟩ : ∃ f, fu = f + 1 := ⟨fu - 1, by omega⟩
    have i1 : ((12 : Int32) * nI k) + ((2 : Int32) * nI y) = nI (12 * k + 2 * y) := by rw [y12, y2, pk_mul, pk_mul, nI_add]
    have i2 : ((12 : Int32) * nI x) + ((2 : Int32) * nI y) = nI (12 * x + 2 * y) := by rw [y12, y2, pk_mul, pk_mul, nI_add]
    have i3 : ((12 : Int32) * nI x) + ((2 : Int32) * nI k) = nI (12 * x + 2 * k) := by rw [y12, y2, pk_mul, pk_mul, nI_add]
    have r46 : qR σ 12 46 (some 60) = some (some 82) := by simp only [qR, PN h, bnd]
    have l1 : ldI σ (some 82) (nI (12 * k + 2 * y)) = some (g1 k y) := by simp (disch := omega) only [ldI_lo, A82 h, bnd, nI_clamp, (hg k y (by omega) hy).1]
    have l2 : ldI σ (some 82) (nI (12 * x + 2 * y)) = some (g1 x y) := by simp (disch := omega) only [ldI_lo, A82 h, bnd, nI_clamp, (hg x y hx hy).1]
    have l3 : ldI σ (some 82) (nI (12 * x + 2 * k) + (1 : Int32)) = some (g2 x k) := by simp (disch := omega) only [nI_1, ldI_lo, A82 h, bnd, nI_clamp, (hg x k hx (by omega)).2]
    have l4 : ldI σ (some 82) (nI (12 * x + 2 * y) + (1 : Int32)) = some (g2 x y) := by simp (disch := omega) only [nI_1, ldI_lo, A82 h, bnd, nI_clamp, (hg x y hx hy).2]
    have z0 := ih (k + 1) fu false (by omega) (by omega)
    have z1 := ih (k + 1) fu true (by omega) (by omega)
    rw [bI_f, Bool.false_and] at z0
    rw [bI_t, Bool.true_and] at z1
    rw [fc12_rests_98, y6, if_neg (nI_ge (by omega) (by omega)), rsB]
    cases b with
    | false =>
      rw [bI_f, if_pos rfl, Bool.false_and, ← z0]
      simp only [fc12_rests_184, fc12_rests_185, nI_1]
    | true =>
      rw [bI_t, if_neg one0, Bool.true_and]
      simp only [r46, bnd, i1, i2, i3, l1, l2, l3, l4]
      by_cases c1 : g1 x y < g1 k y
      · rw [if_pos c1, if_pos c1, ← z0]
        simp only [fc12_rests_184, fc12_rests_185, nI_1]
      · rw [if_neg c1, if_neg c1]
        by_cases c2 : g2 x k ≤ g2 x y
        · have c2' : ¬ g2 x y < g2 x k := by
            rw [i_toInt_le] at c2; rw [i_toInt_lt]; omega
          rw [if_neg c2', if_pos c2, ← z1]
          simp only [fc12_rests_185, nI_1]
        · have c2' : g2 x y < g2 x k := by
            rw [i_toInt_le] at c2; rw [i_toInt_lt]; omega
          rw [if_pos c2', if_neg c2, ← z0]
          simp only [fc12_rests_184, fc12_rests_185, nI_1]
theorem rests85_m (h : Sh σ) {g1 g2 : Nat → Nat → Int32} (hg : GtM σ g1 g2) {i4 : Int32} {x B : Nat} (hB : B ≤ 36) (hx : x < 6) (hN : 10 ≤ N) {K : Option Nat → Int32 → Int32 → Int32 → Me → Option (Int32 × Me)} {F : Nat → Int32} (hK : ∀ n, n ≤ B → K (some 60) i4 (nI n) (nI (x + 1)) σ = some (F n, σ)) :
    ∀ (c y n fu : Nat), y + c = 6 → n + c ≤ B → c < fu → fc12_rests_85 N K fu (some 60) i4 (nI n) (nI x) (nI y) σ = some (rsR g1 g2 i4 x F c y n, σ)
  | _, _, _, 0, _, _, h0 => absurd h0 (Nat.not_lt_zero _)
  | 0, y, n, fu + 1, hy, hn, _ => by
    have c : 6 ≤ y := by omega
    rw [rsR, ← hK n (by omega)]
    simp (disch := omega) only [fc12_rests_85, y6, nI_leI, c, if_true, if_false, ↓reduceIte, and_true, true_and, and_false, false_and, not_true_eq_false, not_false_eq_true, and_self, nI_1]
  | c + 1, y, n, fu + 1, hy, hn, h0 => by
    have z := rests98_m (N := N) h hg (K75 := K) (K85 := fc12_rests_85 N K fu) (i4 := i4) hx (show y < 6 by omega) (show n ≤ 100 by omega) 6 0 N true (by omega) (by omega)
    rw [Bool.true_and] at z
    have x1 : fc12_rests_85 N K (fu + 1) (some 60) i4 (nI n) (nI x) (nI y) σ = fc12_rests_98 N K (fc12_rests_85 N K fu) N (some 60) i4 (nI n) (nI x) (nI y) (bI true) (nI 0) σ := by
      rw [fc12_rests_85, y6, if_neg (nI_ge (by omega) (by omega))]
      rfl
    rw [x1, z, rsR]
    by_cases hb : rsB g1 g2 x y 6 0 = true
    · rw [if_pos hb, if_pos hb]
      by_cases hi : nI n = i4
      · rw [if_pos hi, if_pos hi]
      · rw [if_neg hi, if_neg hi]
        exact rests85_m h hg hB hx hN hK c (y + 1) (n + 1) fu (by omega) (by omega) (by omega)
    · rw [if_neg hb, if_neg hb]
      exact rests85_m h hg hB hx hN hK c (y + 1) n fu (by omega) (by omega) (by omega)
theorem rests75_m (h : Sh σ) {g1 g2 : Nat → Nat → Int32} (hg : GtM σ g1 g2) {i4 : Int32} (hN : 10 ≤ N) : ∀ (a x n fu : Nat), x + a = 6 → n + 6 * a ≤ 36 → a < fu → fc12_rests_75 N fu (some 60) i4 (nI n) (nI x) σ = some (rsA g1 g2 i4 a x n, σ)
  | _, _, _, 0, _, _, h0 => absurd h0 (Nat.not_lt_zero _)
  | 0, x, n, fu + 1, hx, hn, _ => by
    have c : 6 ≤ x := by omega
    rw [rsA]
    by_cases hi : i4 = -1
    · rw [if_pos hi]
      simp (disch := omega) only [fc12_rests_75, y6, nI_leI, c, hi, if_true, if_false, ↓reduceIte, and_true, true_and, and_false, false_and, not_true_eq_false, not_false_eq_true, and_self]
    · rw [if_neg hi]
      simp (disch := omega) only [fc12_rests_75, y6, nI_leI, c, hi, if_true, if_false, ↓reduceIte, and_true, true_and, and_false, false_and, not_true_eq_false, not_false_eq_true, and_self]
  | a + 1, x, n, fu + 1, hx, hn, h0 => by
    have c : ¬ 6 ≤ x := by omega
    have z := rests85_m (N := N) (i4 := i4) (B := 36 - 6 * a) h hg (by omega) (show x < 6 by omega) hN (K := fc12_rests_75 N fu) (F := fun n => rsA g1 g2 i4 a (x + 1) n) (fun n hn => rests75_m h hg hN a (x + 1) n fu (by omega) (by omega) (by omega)) 6 0 n N (by omega) (by omega) (by omega)
    rw [rsA, ← z]
    simp (disch := omega) only [fc12_rests_75, y6, nI_leI, c, if_true, if_false, ↓reduceIte, and_true, true_and, and_false, false_and, not_true_eq_false, not_false_eq_true, and_self, y0]
theorem rests_m (h : Qm N σ S) {i j rain : Nat} (hi : i < pn (sQ S)) (hj : j < pn (sQ S)) (hij : i ≠ j) (hr : rain ≤ 99) {i4 : Int32} (h4 : (-1 : Int32) ≤ i4) : Am S σ (rsA (gn1 (sQ S) (sq S) (sR S) i j rain) (gn2 (sQ S) (sq S) (sR S) i j rain) i4 6 0 0) (fc12_rests N 60 (nI i) (nI j) (nI rain) i4 σ) := by
  have hq := h.th
  have b6 := h.2.2.1.n6
  have hN := h.2.2.2.2.2
  have x1 : fc12_rests N 60 (nI i) (nI j) (nI rain) i4 σ = fc12_rests_26 N N (some 60) (nI i) (nI j) (nI rain) i4 (nI 0) (setI σ 60 0 0) := by
    rw [fc12_rests, th0 h.1, bnd]
    simp (disch := omega) only [PN hq.1, bnd, isGame_y hq.1 hq.n24 b6 hi hj hij hr, one0, h4, if_true, if_false, ↓reduceIte, and_true, true_and, and_false, false_and, not_true_eq_false, not_false_eq_true, and_self]
    rfl
  rw [x1]
  generalize hG1 : gn1 (sQ S) (sq S) (sR S) i j rain = G1
  generalize hG2 : gn2 (sQ S) (sq S) (sR S) i j rain = G2
  have key : ∃ σ' : Me, fc12_rests_26 N N (some 60) (nI i) (nI j) (nI rain) i4 (nI 0) (setI σ 60 0 0) = some (rsA G1 G2 i4 6 0 0, σ') ∧ Fr mX (setI σ 60 0 0) σ' ∧ Qm N σ' S := by
    refine lp (fun fu k τ => fc12_rests_26 N fu (some 60) (nI i) (nI j) (nI rain) i4 (nI k) τ) (fun k τ => Fr mX (setI σ 60 0 0) τ ∧ Qm N τ S ∧ ∀ p, p < k → mi τ 82 p = if p % 2 = 0 then G1 (p / 12) (p / 2 % 6) else G2 (p / 12) (p / 2 % 6)) (fun o => ∃ σ' : Me, o = some (rsA G1 G2 i4 6 0 0, σ') ∧ Fr mX (setI σ 60 0 0) σ' ∧ Qm N σ' S) 72 ?_ ?_ 72 0 N _ (by omega) (by omega) ⟨Fr.rf _ _, hq, fun p hp => by omega⟩
    · rintro fu τ ⟨i1, i2, i3⟩
      refine ⟨τ, ?_, i1, i2⟩
      have hg : GtM τ G1 G2 := fun x y hx hy => by
        have e1 := i3 (12 * x + 2 * y) (by omega)
        have e2 := i3 (12 * x + 2 * y + 1) (by omega)
        rw [if_pos (by omega), show (12 * x + 2 * y) / 12 = x by omega, show (12 * x + 2 * y) / 2 % 6 = y by omega] at e1
        rw [if_neg (by omega), show (12 * x + 2 * y + 1) / 12 = x by omega, show (12 * x + 2 * y + 1) / 2 % 6 = y by omega] at e2
        exact ⟨e1, e2⟩
      rw [← rests75_m (N := N) i2.1 hg (i4 := i4) (by omega) 6 0 0 N (by omega) (by omega) (by omega)]
      have c : (72 : Nat) ≤ 72 := by decide
      simp (disch := omega) only [fc12_rests_26, y72, nI_leI, c, if_true, if_false, ↓reduceIte, and_true, true_and, and_false, false_and, not_true_eq_false, not_false_eq_true, and_self, y0]
    · rintro fu k τ hk ⟨i1, i2, i3⟩
      refine .inl ?_
      obtain ⟨τ1, g1, g2, g3, g4⟩ := gameOf_m i2 hi hj hij hr (x := k / 12) (y := k / 2 % 6) (w := k % 2) (by omega) (by omega) (by omega)
      rw [hG1, hG2] at g1
      have f2 : Fr mX τ1 (setI τ1 82 k (if k % 2 = 0 then G1 (k / 12) (k / 2 % 6) else G2 (k / 12) (k / 2 % 6))) := fr_I rfl (Fr.rf _ _)
      have f2' : Fr (fun a _ => a == 82) τ1 (setI τ1 82 k (if k % 2 = 0 then G1 (k / 12) (k / 2 % 6) else G2 (k / 12) (k / 2 % 6))) := fr_I rfl (Fr.rf _ _)
      refine ⟨_, ?_, (i1.tr g3).tr f2, g4.fr f2 (g4.memo.fr f2' (fun _ => ⟨rfl, rfl⟩)), fun p hp => ?_⟩
      · have c : ¬ 72 ≤ k := by omega
        have d1 := dv_n (a := k) (d := 12) (by omega) (by decide) (by decide)
        have d2 := dv_n (a := k) (d := 2) (by omega) (by decide) (by decide)
        have d3 := rm_n (a := k / 2) (d := 6) (by omega) (by decide) (by decide)
        have d4 := rm_n (a := k) (d := 2) (by omega) (by decide) (by decide)
        have r46 : qR τ 12 46 (some 60) = some (some 82) := by simp only [qR, PN i2.1, bnd]
        have d60 : dr τ (some 60) (.inl 12) = some 60 := by simp only [PN i2.1]
        rw [fc12_rests_26, y72, if_neg (nI_ge (by omega) (by omega)), r46, bnd, y12, d1, bnd, y2, d2, bnd, y6, d3, bnd, d4, bnd, d60, bnd, g1, bnd]
        simp (disch := omega) only [stI, A82 g4.1, bnd, nI_clamp, nI_1]
      · by_cases e : p = k
        · subst e; rw [mi_eq]
        · rw [mi_ne _ _ (by omega), g2.i rfl]; exact i3 p (by omega)
  obtain ⟨σ', z1, z2, z3⟩ := key
  exact Am.of z1 z2 z3
theorem rests_mn (h : Sh σ) (hr : RM σ S) (hw : WS S) {x1 x2 x3 x4 : Int32} (hx : ¬ ∃ i j rain : Nat, i < pn (sQ S) ∧ j < pn (sQ S) ∧ i ≠ j ∧ rain ≤ 99 ∧ (-1 : Int32) ≤ x4 ∧ x1 = nI i ∧ x2 = nI j ∧ x3 = nI rain) : fc12_rests N 60 x1 x2 x3 x4 σ = some (-1, setI σ 60 0 0) := by
  have b6 := hw.n6
  have ht : Sh (setI σ 60 0 0) := h
  have hn := (hr.th hw).n24
  rw [fc12_rests, th0 h, bnd]
  by_cases hp : ∃ i j rain : Nat, i < pn (sQ S) ∧ j < pn (sQ S) ∧ i ≠ j ∧ rain ≤ 99 ∧ x1 = nI i ∧ x2 = nI j ∧ x3 = nI rain
  · obtain ⟨i, j, rain, hi, hj, hij, hrn, rfl, rfl, rfl⟩ := hp
    have c1 : ¬ (-1 : Int32) ≤ x4 := fun e => hx ⟨i, j, rain, hi, hj, hij, hrn, e, rfl, rfl, rfl⟩
    simp (disch := omega) only [PN ht, bnd, isGame_y ht hn b6 hi hj hij hrn, one0, c1, if_true, if_false, ↓reduceIte, and_true, true_and, and_false, false_and, not_true_eq_false, not_false_eq_true, and_self]
  · simp (disch := omega) only [PN ht, bnd, isGame_n ht hn b6 hp, if_true, if_false, ↓reduceIte, and_true, true_and, and_false, false_and, not_true_eq_false, not_false_eq_true, and_self]
end MG
