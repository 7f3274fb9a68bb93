/-! questions to the class: rests, turns, what is to be forgiven -/
/-- does nobody win by moving alone -/
def rsB (g1 g2 : Nat → Nat → Int32) (x y : Nat) : Nat → Nat → Bool
  | 0, _ => true
  | m + 1, k => if g1 x y < g1 k y then false else if g2 x k ≤ g2 x y then rsB g1 g2 x y m (k + 1) else false
/-- the rests of a row, then what comes behind the row -/
def rsR (g1 g2 : Nat → Nat → Int32) (i : Int32) (x : Nat) (F : Nat → Int32) : Nat → Nat → Nat → Int32
  | 0, _, n => F n
  | c + 1, y, n => if rsB g1 g2 x y 6 0 = true then (if nI n = i then nI (10 * x + y) else rsR g1 g2 i x F c (y + 1) (n + 1)) else rsR g1 g2 i x F c (y + 1) n
def rsA (g1 g2 : Nat → Nat → Int32) (i : Int32) : Nat → Nat → Nat → Int32
  | 0, _, n => if i = -1 then nI n else -1
  | a + 1, x, n => rsR g1 g2 i x (fun n => rsA g1 g2 i a (x + 1) n) 6 0 n
section QS
variable {N : Nat} {σ : Me} {P : Pl} {r : Rw} {q : PF} {b : Nat}
def gn1 (P : Pl) (q : PF) (r : Rw) (i j rain : Nat) (x y : Nat) : Int32 := nI (brnY P q (rPlay r i j x y) rain i) - nI x
def gn2 (P : Pl) (q : PF) (r : Rw) (i j rain : Nat) (x y : Nat) : Int32 := nI (brnY P q (rPlay r i j x y) rain j) - nI y
/-- the table of a game up to a place -/
def GtC (σ : Me) (g1 g2 : Nat → Nat → Int32) (p : Nat) : Prop := ∀ k, k < p → mi σ 57 k = g1 (k / 6) (k % 6) ∧ mi σ 58 k = g2 (k / 6) (k % 6)
theorem fill37_c (h0 : Qc N σ P r q b) {i j rain : Nat} (hi : i < pn P) (hj : j < pn P) (hij : i ≠ j) (hr : rain ≤ 99) {i4 : Int32} (K : Option Nat → Int32 → Int32 → Int32 → Int32 → Int32 → Me → Option (Int32 × Me)) {x : Nat} (hx : x < 6) {τ0 : Me} (f0 : Fr (cX b) σ τ0) (g0 : GtC τ0 (gn1 P q r i j rain) (gn2 P q r i j rain) (6 * x)) :
    ∃ σ' : Me, fc11_rests_37 N K N (some 0) (nI i) (nI j) (nI rain) i4 (nI x) (nI 0) τ0 = K (some 0) (nI i) (nI j) (nI rain) i4 (nI (x + 1)) σ' ∧ Fr (cX b) σ σ' ∧ GtC σ' (gn1 P q r i j rain) (gn2 P q r i j rain) (6 * (x + 1)) := by
  have h9 := h0.2.2.2.2.2.2.2.2
  refine lp (fun fu y τ => fc11_rests_37 N K fu (some 0) (nI i) (nI j) (nI rain) i4 (nI x) (nI y) τ) (fun y τ => Fr (cX b) σ τ ∧ GtC τ (gn1 P q r i j rain) (gn2 P q r i j rain) (6 * x + y)) (fun o => ∃ σ' : Me, o = K (some 0) (nI i) (nI j) (nI rain) i4 (nI (x + 1)) σ' ∧ Fr (cX b) σ σ' ∧ GtC σ' (gn1 P q r i j rain) (gn2 P q r i j rain) (6 * (x + 1))) 6 ?_ ?_ 6 0 N τ0 (by omega) (by omega) ⟨f0, g0⟩
  · intro fu τ hI
    refine ⟨τ, ?_, hI.1, ?_⟩
    · have c : (6 : Nat) ≤ 6 := by decide
      simp (disch := omega) only [fc11_rests_37, y6, nI_leI, c, if_true, if_false, ↓reduceIte, and_true, true_and, and_false, false_and, not_true_eq_false, not_false_eq_true, and_self, nI_1]
    · rw [show 6 * (x + 1) = 6 * x + 6 by omega]; exact hI.2
  · intro fu y τ hy hI
    refine .inl ?_
    have hτ := h0.fr hI.1
    obtain ⟨τ1, p1, p2, p3⟩ := play_g hτ hi hj hij hr hx hy
    have hτ1 := hτ.fr p2.gc
    have e1 := (p3.2.2.2.2 i hi).2.2
    have e2 := (p3.2.2.2.2 j hj).2.2
    have b6 := h0.2.2.1.1
    refine ⟨setI (setI τ1 57 (6 * x + y) (gn1 P q r i j rain x y)) 58 (6 * x + y) (gn2 P q r i j rain x y), ?_, fr_I rfl (fr_I rfl (hI.1.tr p2.gc)), fun k hk => ?_⟩
    · have c : ¬ 6 ≤ y := by omega
      have e3 : x * 6 + y = 6 * x + y := by omega
      have e2' : mi (setI τ1 57 (6 * x + y) (nI (brnY P q (rPlay r i j x y) rain i) - nI x)) 35 j = nI (brnY P q (rPlay r i j x y) rain j) := by rw [mi_ne _ _ (by omega)]; exact e2
      simp (disch := omega) only [fc11_rests_37, y6, nI_leI, c, if_true, if_false, ↓reduceIte, and_true, true_and, and_false, false_and, not_true_eq_false, not_false_eq_true, and_self, PK hτ.1, bnd, p1, qR, PK hτ1.1, ldI_lo, A35 hτ1.1, nI_clamp, e1, pk_mul, nI_add, e3, stI, A57 hτ1.1, A58 hτ1.1, dr_setI, mr_setI, arr_setI, e2', gn1, gn2, nI_1]
    · by_cases e : k = 6 * x + y
      · subst e
        rw [show (6 * x + y) / 6 = x by omega, show (6 * x + y) % 6 = y by omega]
        simp (disch := omega) only [mi_ne, mi_eq, and_self]
      · simp (disch := omega) only [mi_ne]
        rw [p2.i rfl, p2.i rfl]
        exact hI.2 k (by omega)
theorem isRest_c (h : Sh σ) {g1 g2 : Nat → Nat → Int32} (hg : GtC σ g1 g2 36) {x y : Nat} (hx : x < 6) (hy : y < 6) (hN : 10 ≤ N) : fc11_isRest N 0 (nI x) (nI y) σ = some (bI (rsB g1 g2 x y 6 0), σ) := by
  have key : ∀ (m k fu : Nat), k + m = 6 → m < fu → fc11_isRest_10 N fu (some 0) (nI x) (nI y) (nI (6 * x + y)) (nI k) σ = some (bI (rsB g1 g2 x y m k), σ) := by
    intro m
    induction m with
    | zero =>
      intro k fu hk hfu
      obtain ⟨fu, rfl⟩ : ∃ f, fu = f + 1 := ⟨fu - 1, by omega⟩
      have c : 6 ≤ k := by omega
      simp (disch := omega) only [fc11_isRest_10, y6, nI_leI, c, if_true, if_false, ↓reduceIte, and_true, true_and, and_false, false_and, not_true_eq_false, not_false_eq_true, and_self, retZ1]
      rfl
    | succ m ih =>
      intro k fu hk hfu
      obtain ⟨fu, rfl⟩ : ∃ f, fu = f + 1 := ⟨fu - 1, by omega⟩
      have c : ¬ 6 ≤ k := by omega
      have a1 := (hg (6 * x + y) (by omega)).1
      have a2 := (hg (6 * x + y) (by omega)).2
      have a3 := (hg (6 * k + y) (by omega)).1
      have a4 := (hg (6 * x + k) (by omega)).2
      rw [show (6 * x + y) / 6 = x by omega, show (6 * x + y) % 6 = y by omega] at a1 a2
      rw [show (6 * k + y) / 6 = k by omega, show (6 * k + y) % 6 = y by omega] at a3
      rw [show (6 * x + k) / 6 = x by omega, show (6 * x + k) % 6 = k by omega] at a4
      have e3 : k * 6 + y = 6 * k + y := by omega
      have e4 : x * 6 + k = 6 * x + k := by omega
      by_cases c1 : g1 x y < g1 k y
      · rw [rsB, if_pos c1]
        simp (disch := omega) only [fc11_isRest_10, y6, nI_leI, c, if_true, if_false, ↓reduceIte, and_true, true_and, and_false, false_and, not_true_eq_false, not_false_eq_true, and_self, qR, PK h, bnd, ldI_lo, A57 h, A58 h, pk_mul, nI_add, e3, e4, nI_clamp, a1, a3, c1, retZ0]
        rfl
      · by_cases c2 : g2 x k ≤ g2 x y
        · rw [rsB, if_neg c1, if_pos c2, ← ih (k + 1) fu (by omega) (by omega)]
          simp (disch := omega) only [fc11_isRest_10, y6, nI_leI, c, if_true, if_false, ↓reduceIte, and_true, true_and, and_false, false_and, not_true_eq_false, not_false_eq_true, and_self, qR, PK h, bnd, ldI_lo, A57 h, A58 h, pk_mul, nI_add, e3, e4, nI_clamp, a1, a2, a3, a4, c1, c2, nI_1]
        · rw [rsB, if_neg c1, if_neg c2]
          simp (disch := omega) only [fc11_isRest_10, y6, nI_leI, c, if_true, if_false, ↓reduceIte, and_true, true_and, and_false, false_and, not_true_eq_false, not_false_eq_true, and_self, qR, PK h, bnd, ldI_lo, A57 h, A58 h, pk_mul, nI_add, e3, e4, nI_clamp, a1, a2, a3, a4, c1, c2, retZ0]
          rfl
  unfold fc11_isRest
  rw [y6, pk_mul, nI_add, show x * 6 + y = 6 * x + y by omega]
  exact key 6 0 N (by omega) (by omega)
theorem bI_t : bI true = 1 := rfl
theorem bI_f : bI false = 0 := rfl
theorem rests133_c (h : Sh σ) {g1 g2 : Nat → Nat → Int32} (hg : GtC σ g1 g2 36) {i4 : Int32} {x B : Nat} (hB : B ≤ 36) (hx : x < 6) (hN : 10 ≤ N) {K : Option Nat → Int32 → Int32 → Int32 → Me → Option (Int32 × Me)} {F : Nat → Int32} (hK : ∀ n, n ≤ B → K (some 0) i4 (nI n) (nI (x + 1)) σ = some (F n, σ)) :
    ∀ (c y n fu : Nat), y + c = 6 → n + c ≤ B → c < fu → fc11_rests_133 N K fu (some 0) i4 (nI n) (nI x) (nI y) σ = some (rsR g1 g2 i4 x F c y n, σ)
  | _, _, _, 0, _, _, h0 => absurd h0 (Nat.not_lt_zero _)
  | 0, y, n, fu + 1, hy, hn, _ => by
    have c : 6 ≤ y := by omega
    rw [rsR, ← hK n (by omega)]
    simp (disch := omega) only [fc11_rests_133, y6, nI_leI, c, if_true, if_false, ↓reduceIte, and_true, true_and, and_false, false_and, not_true_eq_false, not_false_eq_true, and_self, nI_1]
  | c + 1, y, n, fu + 1, hy, hn, h0 => by
    have cy : ¬ 6 ≤ y := by omega
    have ir := isRest_c (N := N) h hg hx (show y < 6 by omega) hN
    have c1 : ¬ (1 : Int32) = 0 := by decide
    by_cases hb : rsB g1 g2 x y 6 0 = true
    · rw [hb, bI_t] at ir
      by_cases hi : nI n = i4
      · rw [rsR, if_pos hb, if_pos hi]
        simp (disch := omega) only [fc11_rests_133, y6, nI_leI, cy, if_true, if_false, ↓reduceIte, and_true, true_and, and_false, false_and, not_true_eq_false, not_false_eq_true, and_self, PK h, bnd, ir, c1, hi, y10, pk_mul, nI_add]
      · rw [rsR, if_pos hb, if_neg hi, ← rests133_c h hg hB hx hN hK c (y + 1) (n + 1) fu (by omega) (by omega) (by omega)]
        simp (disch := omega) only [fc11_rests_133, fc11_rests_170, y6, nI_leI, cy, if_true, if_false, ↓reduceIte, and_true, true_and, and_false, false_and, not_true_eq_false, not_false_eq_true, and_self, PK h, bnd, ir, c1, hi, nI_1]
    · have hb' : rsB g1 g2 x y 6 0 = false := by simpa using hb
      rw [hb', bI_f] at ir
      rw [rsR, if_neg hb, ← rests133_c h hg hB hx hN hK c (y + 1) n fu (by omega) (by omega) (by omega)]
      simp (disch := omega) only [fc11_rests_133, fc11_rests_170, y6, nI_leI, cy, if_true, if_false, ↓reduceIte, and_true, true_and, and_false, false_and, not_true_eq_false, not_false_eq_true, and_self, PK h, bnd, ir, nI_1]
theorem rests123_c (h : Sh σ) {g1 g2 : Nat → Nat → Int32} (hg : GtC σ g1 g2 36) {i4 : Int32} (hN : 10 ≤ N) : ∀ (a x n fu : Nat), x + a = 6 → n + 6 * a ≤ 36 → a < fu → fc11_rests_123 N fu (some 0) i4 (nI n) (nI x) σ = some (rsA g1 g2 i4 a x n, σ)
  | _, _, _, 0, _, _, h0 => absurd h0 (Nat.not_lt_zero _)
  | 0, x, n, fu + 1, hx, hn, _ => by
    have c : 6 ≤ x := by omega
    rw [rsA]
    by_cases hi : i4 = -1
    · rw [if_pos hi]
      simp (disch := omega) only [fc11_rests_123, y6, nI_leI, c, hi, if_true, if_false, ↓reduceIte, and_true, true_and, and_false, false_and, not_true_eq_false, not_false_eq_true, and_self]
    · rw [if_neg hi]
      simp (disch := omega) only [fc11_rests_123, y6, nI_leI, c, hi, if_true, if_false, ↓reduceIte, and_true, true_and, and_false, false_and, not_true_eq_false, not_false_eq_true, and_self]
  | a + 1, x, n, fu + 1, hx, hn, h0 => by
    have c : ¬ 6 ≤ x := by omega
    have z := rests133_c (N := N) (i4 := i4) (B := 36 - 6 * a) h hg (by omega) (show x < 6 by omega) hN (K := fc11_rests_123 N fu) (F := fun n => rsA g1 g2 i4 a (x + 1) n) (fun n hn => rests123_c h hg hN a (x + 1) n fu (by omega) (by omega) (by omega)) 6 0 n N (by omega) (by omega) (by omega)
    rw [rsA, ← z]
    simp (disch := omega) only [fc11_rests_123, y6, nI_leI, c, if_true, if_false, ↓reduceIte, and_true, true_and, and_false, false_and, not_true_eq_false, not_false_eq_true, and_self, y0]
theorem rests_c (h : Qc N σ P r q b) {i j rain : Nat} (hi : i < pn P) (hj : j < pn P) (hij : i ≠ j) (hr : rain ≤ 99) {i4 : Int32} (h4 : (-1 : Int32) ≤ i4) :
    ∃ σ' : Me, fc11_rests N 0 (nI i) (nI j) (nI rain) i4 σ = some (rsA (gn1 P q r i j rain) (gn2 P q r i j rain) i4 6 0 0, σ') ∧ Fr (cX b) σ σ' := by
  have h9 := h.2.2.2.2.2.2.2.2
  have b6 := h.2.2.1.1
  have x1 : fc11_rests N 0 (nI i) (nI j) (nI rain) i4 σ = fc11_rests_27 N N (some 0) (nI i) (nI j) (nI rain) i4 (nI 0) σ := by
    have cc : ¬ (1 : Int32) = 0 := by decide
    simp (disch := omega) only [fc11_rests, PK h.1, bnd, pair_y h.1 h.2.1.1 b6 hi hj hij, rain_y hr, cc, h4, if_true, if_false, ↓reduceIte, and_true, true_and, and_false, false_and, not_true_eq_false, not_false_eq_true, and_self]
    rfl
  rw [x1]
  refine lp (fun fu x τ => fc11_rests_27 N fu (some 0) (nI i) (nI j) (nI rain) i4 (nI x) τ) (fun x τ => Fr (cX b) σ τ ∧ GtC τ (gn1 P q r i j rain) (gn2 P q r i j rain) (6 * x)) (fun o => ∃ σ' : Me, o = some (rsA (gn1 P q r i j rain) (gn2 P q r i j rain) i4 6 0 0, σ') ∧ Fr (cX b) σ σ') 6 ?_ ?_ 6 0 N σ (by omega) (by omega) ⟨Fr.rf _ _, fun k hk => by omega⟩
  · intro fu τ hI
    refine ⟨τ, ?_, hI.1⟩
    rw [← rests123_c (N := N) (h.fr hI.1).1 hI.2 (i4 := i4) (by omega) 6 0 0 N (by omega) (by omega) (by omega)]
    have c : (6 : Nat) ≤ 6 := by decide
    simp (disch := omega) only [fc11_rests_27, y6, nI_leI, c, if_true, if_false, ↓reduceIte, and_true, true_and, and_false, false_and, not_true_eq_false, not_false_eq_true, and_self, y0]
  · intro fu x τ hx hI
    refine .inl ?_
    obtain ⟨τ', z1, z2, z3⟩ := fill37_c h hi hj hij hr (i4 := i4) (fc11_rests_27 N fu) hx hI.1 hI.2
    refine ⟨τ', ?_, z2, z3⟩
    rw [← z1]
    have c : ¬ 6 ≤ x := by omega
    simp (disch := omega) only [fc11_rests_27, y6, nI_leI, c, if_true, if_false, ↓reduceIte, and_true, true_and, and_false, false_and, not_true_eq_false, not_false_eq_true, and_self, y0]
theorem rests_n (h : Sh σ) {n : Nat} (hn : mi σ 19 5 = nI n) (h6 : n ≤ 6) {x1 x2 x3 x4 : Int32} (hx : ¬ ∃ i j rain : Nat, i < n ∧ j < n ∧ i ≠ j ∧ rain < 100 ∧ (-1 : Int32) ≤ x4 ∧ x1 = nI i ∧ x2 = nI j ∧ x3 = nI rain) : fc11_rests N 0 x1 x2 x3 x4 σ = some (-1, σ) := by
  have c : ¬ (1 : Int32) = 0 := by decide
  by_cases hp : ∃ i j : Nat, i < n ∧ j < n ∧ i ≠ j ∧ x1 = nI i ∧ x2 = nI j
  · obtain ⟨i, j, hi, hj, hij, rfl, rfl⟩ := hp
    rcases nix x3 (n := 100) (by omega) with q3 | ⟨rain, hr, rfl⟩
    · simp (disch := omega) only [fc11_rests, PK h, bnd, pair_y h hn h6 hi hj hij, rain_n q3, c, if_true, if_false, ↓reduceIte, and_true, true_and, and_false, false_and, not_true_eq_false, not_false_eq_true, and_self]
    · have hr' : rain ≤ 99 := by omega
      by_cases c1 : (-1 : Int32) ≤ x4
      · exact absurd ⟨i, j, rain, hi, hj, hij, hr, c1, rfl, rfl, rfl⟩ hx
      · simp (disch := omega) only [fc11_rests, PK h, bnd, pair_y h hn h6 hi hj hij, rain_y hr', c, c1, if_true, if_false, ↓reduceIte, and_true, true_and, and_false, false_and, not_true_eq_false, not_false_eq_true, and_self]
  · simp (disch := omega) only [fc11_rests, PK h, bnd, pair_n h hn h6 hp, if_true, if_false, ↓reduceIte, and_true, true_and, and_false, false_and, not_true_eq_false, not_false_eq_true, and_self]
/-! who is paid when -/
def rkN (g : Nat → Nat) (f : Nat) : Nat → Nat → Nat → Nat
  | 0, _, acc => acc
  | m + 1, k, acc => rkN g f m (k + 1) (if befB g k f = true then acc + 1 else acc)
theorem rank_c (h : Sh σ) {g d : Nat → Nat} {n f : Nat} (hs : SkC σ g d n) (hn : n ≤ 6) (hf : f < n) (hg : ∀ f, f < n → g f ≤ 999) (hN : 10 ≤ N) : fc9_rank N 31 (nI f) σ = some (nI (rkN g f n 0 0), σ) := by
  have key : ∀ (m k fu acc : Nat), k + m = n → m < fu → fc9_rank_4 N fu (some 31) (nI f) (nI acc) (nI k) σ = some (nI (rkN g f m k acc), σ) := by
    intro m
    induction m with
    | zero =>
      intro k fu acc hk hfu
      obtain ⟨fu, rfl⟩ : ∃ f, fu = f + 1 := ⟨fu - 1, by omega⟩
      have c : n ≤ k := by omega
      simp (disch := omega) only [fc9_rank_4, qI, PS h, bnd, hs.1, nI_leI, c, if_true, if_false, ↓reduceIte, and_true, true_and, and_false, false_and, not_true_eq_false, not_false_eq_true, and_self, rkN]
    | succ m ih =>
      intro k fu acc hk hfu
      obtain ⟨fu, rfl⟩ : ∃ f, fu = f + 1 := ⟨fu - 1, by omega⟩
      have c : ¬ n ≤ k := by omega
      have eb := bef_c (N := N) h hs hn (show k < n by omega) hf hg
      have c1 : ¬ (1 : Int32) = 0 := by decide
      by_cases hb : befB g k f = true
      · rw [if_pos hb] at eb
        rw [rkN, if_pos hb, ← ih (k + 1) fu (acc + 1) (by omega) (by omega)]
        simp (disch := omega) only [fc9_rank_4, fc9_rank_24, qI, PS h, bnd, hs.1, nI_leI, c, if_true, if_false, ↓reduceIte, and_true, true_and, and_false, false_and, not_true_eq_false, not_false_eq_true, and_self, eb, c1, nI_1]
      · rw [if_neg hb] at eb
        rw [rkN, if_neg hb, ← ih (k + 1) fu acc (by omega) (by omega)]
        simp (disch := omega) only [fc9_rank_4, fc9_rank_24, qI, PS h, bnd, hs.1, nI_leI, c, if_true, if_false, ↓reduceIte, and_true, true_and, and_false, false_and, not_true_eq_false, not_false_eq_true, and_self, eb, nI_1]
  exact key n 0 N 0 (by omega) (by omega)
def tnN (g : Nat → Nat) (n i : Nat) : Nat → Nat → Option Nat
  | 0, _ => none
  | m + 1, f => if rkN g f n 0 0 = i then some f else tnN g n i m (f + 1)
theorem rkN_le (g : Nat → Nat) (f : Nat) : ∀ (m k acc : Nat), rkN g f m k acc ≤ acc + m
  | 0, _, _ => Nat.le_refl _
  | m + 1, k, acc => by
    unfold rkN
    have h1 := rkN_le g f m (k + 1) (if befB g k f = true then acc + 1 else acc)
    split at h1 <;> rename_i c
    · rw [if_pos c]; omega
    · rw [if_neg c]; omega
theorem weigh19 (h : Qc N σ P r q b) {rain : Nat} (hr : rain ≤ 99) : ∃ (σ' : Me) (d : Nat → Nat), fc9_weighAll N 31 (some 19) (nI rain) σ = some ((), σ') ∧ Fr (gX b) σ σ' ∧ SkC σ' (gN P r) d (pn P) ∧ mi σ' 31 7 = nI (rain / pn P) ∧ ∀ f, f < pn P → Deq (d f) (dN P q r (rain / pn P) f) ∧ d f ≤ 1000 := by
  obtain ⟨h1, h2, h3, h4, h5, h6, h7, h8, h9⟩ := h
  obtain ⟨σ', d, a1, a2, a3, a4, a5⟩ := weighAll_c (N := N) (rain := rain) h1 (.inl rfl) h2 h3 h4 h7.c h8 h5 hr (by omega)
  exact ⟨σ', d, a1, a2.mono (fun a j e => aS_s (sS_g e)), ⟨a3, fun f hf => ⟨(a5 f hf).1, (a5 f hf).2.1⟩⟩, a4, fun f hf => (a5 f hf).2.2⟩
theorem weigh25 (h : Qc N σ P r q b) {r' : Rw} (hL : LdC σ 25 P r') (hR : RwB (pn P) r') {rain : Nat} (hr : rain ≤ 99) : ∃ (σ' : Me) (d : Nat → Nat), fc9_weighAll N 31 (some 25) (nI rain) σ = some ((), σ') ∧ Fr (gX b) σ σ' ∧ SkC σ' (gN P r') d (pn P) ∧ mi σ' 31 7 = nI (rain / pn P) ∧ (∀ f, f < pn P → Deq (d f) (dN P q r' (rain / pn P) f) ∧ d f ≤ 1000) ∧ LdC σ' 25 P r' := by
  obtain ⟨h1, h2, h3, h4, h5, h6, h7, h8, h9⟩ := h
  obtain ⟨σ', d, a1, a2, a3, a4, a5⟩ := weighAll_c (N := N) (rain := rain) h1 (.inr rfl) hL h3 hR h7.c h8 h5 hr (by omega)
  exact ⟨σ', d, a1, a2.mono (fun a j e => aS_s (sS_g e)), ⟨a3, fun f hf => ⟨(a5 f hf).1, (a5 f hf).2.1⟩⟩, a4, fun f hf => (a5 f hf).2.2, hL.fr a2 (fun _ => ⟨rfl, rfl, rfl, rfl, rfl, rfl⟩)⟩
theorem turn_c (h : Qc N σ P r q b) {i : Nat} (hi : i < pn P) : ∃ σ' : Me, fc11_turn N 0 (nI i) σ = some (oI (tnN (gN P r) (pn P) i (pn P) 0), σ') ∧ Fr (cX b) σ σ' := by
  obtain ⟨σ1, d, w1, w2, w3, -, -⟩ := weigh19 h (rain := 0) (by omega)
  have h1 := h.fr w2.gc
  have b6 := h.2.2.1.1
  have h9 := h.2.2.2.2.2.2.2.2
  have key : ∀ (m f fu : Nat), f + m = pn P → m < fu → fc11_turn_27 N fu (some 0) (nI i) (nI f) σ1 = some (oI (tnN (gN P r) (pn P) i m f), σ1) := by
    intro m
    induction m with
    | zero =>
      intro f fu hk hfu
      obtain ⟨fu, rfl⟩ : ∃ f, fu = f + 1 := ⟨fu - 1, by omega⟩
      have c : pn P ≤ f := by omega
      simp (disch := omega) only [fc11_turn_27, qR, qI, PK h1.1, bnd, h1.2.1.1, nI_leI, c, if_true, if_false, ↓reduceIte, and_true, true_and, and_false, false_and, not_true_eq_false, not_false_eq_true, and_self]
      rfl
    | succ m ih =>
      intro f fu hk hfu
      obtain ⟨fu, rfl⟩ : ∃ f, fu = f + 1 := ⟨fu - 1, by omega⟩
      have c : ¬ pn P ≤ f := by omega
      have er := rank_c (N := N) h1.1 w3 b6 (show f < pn P by omega) (fun f _ => g_le P r f) (by omega)
      have hle := rkN_le (gN P r) f (pn P) 0 0
      by_cases hc : rkN (gN P r) f (pn P) 0 0 = i
      · rw [tnN, if_pos hc]
        simp (disch := omega) only [fc11_turn_27, qR, qI, PK h1.1, bnd, h1.2.1.1, nI_leI, c, if_true, if_false, ↓reduceIte, and_true, true_and, and_false, false_and, not_true_eq_false, not_false_eq_true, and_self, er, hc]
        rfl
      · rw [tnN, if_neg hc, ← ih (f + 1) fu (by omega) (by omega)]
        simp (disch := omega) only [fc11_turn_27, qR, qI, PK h1.1, bnd, h1.2.1.1, nI_leI, nI_eq, c, if_true, if_false, ↓reduceIte, and_true, true_and, and_false, false_and, not_true_eq_false, not_false_eq_true, and_self, er, hc, nI_1]
  refine ⟨σ1, ?_, w2.gc⟩
  rw [← key (pn P) 0 N (by omega) (by omega)]
  have cc : ¬ (1 : Int32) = 0 := by decide
  have w1' : fc9_weighAll N 31 (some 19) 0 σ = some ((), σ1) := w1
  simp (disch := omega) only [fc11_turn, qR, PK h.1, bnd, has_y h.1 (.inl rfl) h.2.1.1 b6 hi, cc, if_true, if_false, ↓reduceIte, and_true, true_and, and_false, false_and, not_true_eq_false, not_false_eq_true, and_self, w1']
  rfl
theorem turn_n (h : Sh σ) {n : Nat} (hn : mi σ 19 5 = nI n) (h6 : n ≤ 6) {x : Int32} (hx : x < 0 ∨ nI n ≤ x) : fc11_turn N 0 x σ = some (-1, σ) := by
  simp (disch := omega) only [fc11_turn, qR, PK h, bnd, has_n h (.inl rfl) hn hx, if_true, if_false, ↓reduceIte, and_true, true_and, and_false, false_and, not_true_eq_false, not_false_eq_true, and_self]
/-! what is to be forgiven -/
def gUp (g : Nat → Nat) (f x : Nat) : Nat → Nat := fun k => if k = f then x else g k
def frN (P : Pl) (r : Rw) (f : Nat) : Nat → Nat → Option Nat
  | 0, _ => none
  | m + 1, k => if rkN (gUp (gN P r) f (wiN (pin P) (ro r f - k))) f (pn P) 0 0 = 0 then frN P r f m (k + 1) else some k
theorem forgiven38_c {f : Nat} (hf : f < pn P) : ∀ (m k fu : Nat) (τ : Me) (d : Nat → Nat), k + m = ro r f + 1 → m < fu → Qc N τ P r q b → (∃ x, x ≤ 999 ∧ SkC τ (gUp (gN P r) f x) d (pn P)) →
    ∃ σ' : Me, fc11_forgiven_38 N fu (some 0) (nI f) (nI k) τ = some (oI (frN P r f m k), σ') ∧ Fr (cX b) τ σ'
  | _, _, 0, _, _, _, h0, _, _ => absurd h0 (Nat.not_lt_zero _)
  | 0, k, fu + 1, τ, d, hk, _, h, hs => by
    refine ⟨τ, ?_, Fr.rf _ _⟩
    have b6 := h.2.2.1.1
    have e := (h.2.1.2.2.2.2.2 f hf).1
    have hb := (h.2.2.2.1.2.2 f hf).1
    have c : ro r f < k := by omega
    simp (disch := omega) only [fc11_forgiven_38, qR, PK h.1, bnd, ldI_lo, A20 h.1, nI_clamp, e, nI_ltI, c, if_true, if_false, ↓reduceIte, and_true, true_and, and_false, false_and, not_true_eq_false, not_false_eq_true, and_self]
    rfl
  | m + 1, k, fu + 1, τ, d, hk, h0, h, hs => by
    obtain ⟨x, hx, hs⟩ := hs
    have b6 := h.2.2.1.1
    have h9 := h.2.2.2.2.2.2.2.2
    have e := (h.2.1.2.2.2.2.2 f hf).1
    have hb := (h.2.2.2.1.2.2 f hf).1
    have c : ¬ ro r f < k := by omega
    have s1 := pk_sub (show k ≤ ro r f by omega)
    have w := wi_c (N := N) h.1 (.inl rfl) h.2.1.2.1 h.2.2.1.2.1 (show ro r f - k ≤ 999 by omega)
    have hle := wi_le (pin P) (ro r f - k)
    have f1 : Fr (gX b) τ (setI τ 32 f (nI (wiN (pin P) (ro r f - k)))) := fr_I rfl (Fr.rf _ _)
    have h1 := h.fr f1.gc
    have hs1 : SkC (setI τ 32 f (nI (wiN (pin P) (ro r f - k)))) (gUp (gN P r) f (wiN (pin P) (ro r f - k))) d (pn P) := by
      refine ⟨hs.1, fun k' hk' => ⟨?_, (hs.2 k' hk').2⟩⟩
      have h3 := (hs.2 k' hk').1
      unfold gUp at h3 ⊢
      by_cases w : k' = f
      · subst w; rw [mi_eq, if_pos rfl]
      · rw [mi_ne _ _ (by omega), if_neg w]
        rw [if_neg w] at h3
        exact h3
    have er := rank_c (N := N) h1.1 hs1 b6 hf (fun f' hf' => by
      unfold gUp
      split
      · exact hle
      · exact g_le P r f') (by omega)
    have hr6 := rkN_le (gUp (gN P r) f (wiN (pin P) (ro r f - k))) f (pn P) 0 0
    by_cases hz : rkN (gUp (gN P r) f (wiN (pin P) (ro r f - k))) f (pn P) 0 0 = 0
    · obtain ⟨σ2, z1, z2⟩ := forgiven38_c hf m (k + 1) fu _ d (by omega) (by omega) h1 ⟨_, hle, hs1⟩
      refine ⟨σ2, ?_, f1.gc.tr z2⟩
      rw [frN, if_pos hz, ← z1]
      rw [hz] at er
      have c2 : nI 0 ≤ 0 := by decide
      simp (disch := omega) only [fc11_forgiven_38, qR, PK h.1, bnd, ldI_lo, A20 h.1, nI_clamp, e, nI_ltI, c, if_true, if_false, ↓reduceIte, and_true, true_and, and_false, false_and, not_true_eq_false, not_false_eq_true, and_self, s1, w, stI, A32 h.1, dr_setI, mr_setI, er, c2, nI_1]
    · refine ⟨_, ?_, f1.gc⟩
      rw [frN, if_neg hz]
      have c2 : ¬ nI (rkN (gUp (gN P r) f (wiN (pin P) (ro r f - k))) f (pn P) 0 0) ≤ 0 := nI_nle (by omega) (by omega)
      simp (disch := omega) only [fc11_forgiven_38, qR, PK h.1, bnd, ldI_lo, A20 h.1, nI_clamp, e, nI_ltI, c, if_true, if_false, ↓reduceIte, and_true, true_and, and_false, false_and, not_true_eq_false, not_false_eq_true, and_self, s1, w, stI, A32 h.1, dr_setI, mr_setI, er, c2]
      rfl
theorem forgiven_c (h : Qc N σ P r q b) {f : Nat} (hf : f < pn P) (hN : 1100 ≤ N) : ∃ σ' : Me, fc11_forgiven N 0 (nI f) σ = some (oI (frN P r f (ro r f + 1) 0), σ') ∧ Fr (cX b) σ σ' := by
  obtain ⟨σ1, c1, c2, c3⟩ := copy25_g h
  have h1 := h.fr c2.gc
  obtain ⟨σ2, d, w1, w2, w3, -, -, -⟩ := weigh25 h1 c3 h.2.2.2.1 (rain := 0) (by omega)
  have h2 := h1.fr w2.gc
  have b6 := h.2.2.1.1
  have hb := (h.2.2.2.1.2.2 f hf).1
  have hs : SkC σ2 (gUp (gN P r) f (gN P r f)) d (pn P) := by
    refine ⟨w3.1, fun k hk => ?_⟩
    unfold gUp
    by_cases e : k = f
    · subst e; rw [if_pos rfl]; exact w3.2 k hk
    · rw [if_neg e]; exact w3.2 k hk
  obtain ⟨σ3, z1, z2⟩ := forgiven38_c (r := r) hf (ro r f + 1) 0 N σ2 d (by omega) (by omega) h2 ⟨_, g_le P r f, hs⟩
  refine ⟨σ3, ?_, (c2.gc.tr w2.gc).tr z2⟩
  rw [← z1]
  have cc : ¬ (1 : Int32) = 0 := by decide
  have w1' : fc9_weighAll N 31 (some 25) 0 σ1 = some ((), σ2) := w1
  simp (disch := omega) only [fc11_forgiven, qR, PK h.1, bnd, has_y h.1 (.inl rfl) h.2.1.1 b6 hf, cc, if_true, if_false, ↓reduceIte, and_true, true_and, and_false, false_and, not_true_eq_false, not_false_eq_true, and_self, c1, PK h1.1, w1']
  rfl
theorem forgiven_n (h : Sh σ) {n : Nat} (hn : mi σ 19 5 = nI n) (h6 : n ≤ 6) {x : Int32} (hx : x < 0 ∨ nI n ≤ x) : fc11_forgiven N 0 x σ = some (-1, σ) := by
  simp (disch := omega) only [fc11_forgiven, qR, PK h, bnd, has_n h (.inl rfl) hn hx, if_true, if_false, ↓reduceIte, and_true, true_and, and_false, false_and, not_true_eq_false, not_false_eq_true, and_self]
end QS
