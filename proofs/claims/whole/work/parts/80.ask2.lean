/-! questions to the class: years ahead, games -/
def bc (B : Nat) : Nat := bt B 0 + bt B 1 + bt B 2 + bt B 3 + bt B 4 + bt B 5
def bcv (x : Int32) : Int32 := ((fIt_bitCount 0 x σ0).getD (0, σ0)).1
theorem bcv_ok : ∀ B, B < 64 → bcv (nI B) = nI (bc B) := by decide +kernel
theorem bc_c (N : Nat) {B : Nat} (hB : B < 64) (σ : Me) : fIt_bitCount N (nI B) σ = some (nI (bc B), σ) := by
  rw [← bcv_ok B hB]; rfl
theorem bc_le (B : Nat) : bc B ≤ 6 := by
  have h0 := bt_01 B 0
  have h1 := bt_01 B 1
  have h2 := bt_01 B 2
  have h3 := bt_01 B 3
  have h4 := bt_01 B 4
  have h5 := bt_01 B 5
  unfold bc
  omega
def yrN (P : Pl) (q : PF) (rain : Nat) (r : Rw) : Nat → Rw
  | 0 => r
  | k + 1 => yrY P q (yrN P q rain r k) rain
theorem yrN_B {P : Pl} {q : PF} {rain : Nat} {r : Rw} (h : RwB (pn P) r) : ∀ k, rt r + k ≤ 1500 → RwB (pn P) (yrN P q rain r k) ∧ rt (yrN P q rain r k) = rt r + k
  | 0, _ => ⟨h, rfl⟩
  | k + 1, hk => by
    obtain ⟨h1, h2⟩ := yrN_B h (q := q) (rain := rain) k (by omega)
    refine ⟨RwB.yr h1 (by omega), ?_⟩
    show rt (yrN P q rain r k) + 1 = _
    omega
section QS
variable {N : Nat} {σ : Me} {P : Pl} {r : Rw} {q : PF} {b : Nat}
/-- a year of the guess -/
theorem year25 (h : Qc N σ P r q b) {r' : Rw} (hL : LdC σ 25 P r') (hR : RwB (pn P) r') {rain : Nat} (hr : rain ≤ 99) : ∃ σ1 σ2 : Me, fc9_look N 31 (some 25) (nI rain) σ = some ((), σ1) ∧ fc9_settle N 31 (some 25) σ1 = some ((), σ2) ∧ Fr (cX b) σ σ1 ∧ Fr (cX b) σ1 σ2 ∧ LkC σ1 P q r' rain ∧ LdC σ2 25 P (yrY P q r' rain) := by
  obtain ⟨σ1, a1, a2, a3, a4⟩ := look25 h hL hR hr
  obtain ⟨σ2, b1, b2, b3⟩ := settle25 (h.fr a2) a4 hR hr a3
  exact ⟨σ1, σ2, a1, b1, a2, b2, a3, b3⟩
theorem ahead_c (h : Qc N σ P r q b) {f n rain : Nat} (hf : f < pn P) (hn : n ≤ 30) (hr : rain ≤ 99) : ∃ σ' : Me, fc11_ahead N 0 (nI f) (nI n) (nI rain) σ = some (nI (ro (yrN P q rain r n) f), σ') ∧ Fr (cX b) σ σ' := by
  obtain ⟨σ1, c1, c2, c3⟩ := copy25 h
  have h1 := h.fr c2
  have b6 := h.2.2.1.1
  have hB := h.2.2.2.1
  have ht := h.2.2.2.2.2.1
  have h9 := h.2.2.2.2.2.2.2.2
  have cc : ¬ (1 : Int32) = 0 := by decide
  have x1 : fc11_ahead N 0 (nI f) (nI n) (nI rain) σ = fc11_ahead_44 N N (some 0) (nI f) (nI n) (nI rain) (nI 0) σ1 := by
    have d1 := nI_pos (n := n) (by omega)
    have d2 : ¬ 30 < n := by omega
    simp (disch := omega) only [fc11_ahead, qR, PK h.1, bnd, has_y h.1 (.inl rfl) h.2.1.1 b6 hf, cc, d1, y30, nI_ltI, d2, rain_y hr, c1, if_true, if_false, ↓reduceIte, and_true, true_and, and_false, false_and, not_true_eq_false, not_false_eq_true, and_self]
    rfl
  rw [x1]
  refine lp (fun fu k τ => fc11_ahead_44 N fu (some 0) (nI f) (nI n) (nI rain) (nI k) τ) (fun k τ => Fr (cX b) σ τ ∧ LdC τ 25 P (yrN P q rain r k)) (fun o => ∃ σ' : Me, o = some (nI (ro (yrN P q rain r n) f), σ') ∧ Fr (cX b) σ σ') n ?_ ?_ n 0 N σ1 (by omega) (by omega) ⟨c2, c3⟩
  · intro fu τ hI
    have hτ := h.fr hI.1
    refine ⟨τ, ?_, hI.1⟩
    have e := (hI.2.2.2.2.2.2 f hf).1
    have c : n ≤ n := Nat.le_refl _
    simp (disch := omega) only [fc11_ahead_44, nI_leI, c, if_true, if_false, ↓reduceIte, and_true, true_and, and_false, false_and, not_true_eq_false, not_false_eq_true, and_self, qR, PK hτ.1, bnd, ldI_lo, A26 hτ.1, nI_clamp, e]
  · intro fu k τ hk hI
    have hτ := h.fr hI.1
    refine .inl ?_
    obtain ⟨τ1, τ2, e1, e2, e3, e4, e5, e6⟩ := year25 hτ hI.2 (yrN_B hB k (by omega)).1 hr
    refine ⟨τ2, ?_, (hI.1.tr e3).tr e4, e6⟩
    have c : ¬ n ≤ k := by omega
    have hτ1 := hτ.fr e3
    simp (disch := omega) only [fc11_ahead_44, nI_leI, c, if_true, if_false, ↓reduceIte, and_true, true_and, and_false, false_and, not_true_eq_false, not_false_eq_true, and_self, qR, PK hτ.1, bnd, e1, PK hτ1.1, e2, nI_1]
theorem ahead_n (h : Sh σ) {n : Nat} (hn : mi σ 19 5 = nI n) (h6 : n ≤ 6) {x y z : Int32} (hx : ¬ ∃ f m j : Nat, f < n ∧ m ≤ 30 ∧ j < 100 ∧ x = nI f ∧ y = nI m ∧ z = nI j) : fc11_ahead N 0 x y z σ = some (-1, σ) := by
  have c : ¬ (1 : Int32) = 0 := by decide
  rcases nix x (n := n) (by omega) with q | ⟨i, hi, rfl⟩
  · simp (disch := omega) only [fc11_ahead, qR, PK h, bnd, has_n h (.inl rfl) hn q, if_true, if_false, ↓reduceIte, and_true, true_and, and_false, false_and, not_true_eq_false, not_false_eq_true, and_self]
  · by_cases c1 : y < 0
    · simp (disch := omega) only [fc11_ahead, qR, PK h, bnd, has_y h (.inl rfl) hn h6 hi, c, c1, if_true, if_false, ↓reduceIte, and_true, true_and, and_false, false_and, not_true_eq_false, not_false_eq_true, and_self]
    · by_cases c2 : (30 : Int32) < y
      · simp (disch := omega) only [fc11_ahead, qR, PK h, bnd, has_y h (.inl rfl) hn h6 hi, c, c1, c2, if_true, if_false, ↓reduceIte, and_true, true_and, and_false, false_and, not_true_eq_false, not_false_eq_true, and_self]
      · rcases nix z (n := 100) (by omega) with q | ⟨j, hj, rfl⟩
        · simp (disch := omega) only [fc11_ahead, qR, PK h, bnd, has_y h (.inl rfl) hn h6 hi, rain_n q, c, c1, c2, if_true, if_false, ↓reduceIte, and_true, true_and, and_false, false_and, not_true_eq_false, not_false_eq_true, and_self]
        · exfalso
          obtain ⟨m, hm, rfl⟩ := nI_of c1
          rw [y30, nI_ltI (by decide) hm] at c2
          exact hx ⟨i, m, j, hi, by omega, hj, rfl, rfl, rfl⟩
def evN (P : Pl) (q : PF) (rain : Nat) (r : Rw) (f : Nat) : Nat → Nat → Option Nat
  | 0, _ => none
  | m + 1, k => if ro (yrN P q rain r k) f = 0 then some k else evN P q rain r f m (k + 1)
theorem even33_c (h0 : Qc N σ P r q b) {f rain : Nat} (hf : f < pn P) (hr : rain ≤ 99) : ∀ (m k fu : Nat) (τ : Me), k + m = 61 → m < fu → Fr (cX b) σ τ → LdC τ 25 P (yrN P q rain r k) →
    ∃ σ' : Me, fc11_even_33 N fu (some 0) (nI f) (nI rain) (nI k) τ = some (oI (evN P q rain r f m k), σ') ∧ Fr (cX b) σ σ'
  | _, _, 0, _, _, h0, _, _ => absurd h0 (Nat.not_lt_zero _)
  | 0, k, fu + 1, τ, hk, _, i1, i2 => by
    refine ⟨τ, ?_, i1⟩
    have c : 60 < k := by omega
    simp (disch := omega) only [fc11_even_33, y60, nI_ltI, c, if_true, if_false, ↓reduceIte, and_true, true_and, and_false, false_and, not_true_eq_false, not_false_eq_true, and_self]
    rfl
  | m + 1, k, fu + 1, τ, hk, hfu, i1, i2 => by
    have hτ := h0.fr i1
    have hB := h0.2.2.2.1
    have ht := h0.2.2.2.2.2.1
    have b6 := h0.2.2.1.1
    have hRB := (yrN_B (q := q) (rain := rain) hB k (by omega)).1
    have e := (i2.2.2.2.2.2 f hf).1
    have eb := (hRB.2.2 f hf).1
    have c : ¬ 60 < k := by omega
    by_cases hz : ro (yrN P q rain r k) f = 0
    · refine ⟨τ, ?_, i1⟩
      rw [evN, if_pos hz]
      rw [hz] at e
      simp (disch := omega) only [fc11_even_33, y60, nI_ltI, c, if_true, if_false, ↓reduceIte, and_true, true_and, and_false, false_and, not_true_eq_false, not_false_eq_true, and_self, qR, PK hτ.1, bnd, ldI_lo, A26 hτ.1, nI_clamp, e, nI_0]
      rfl
    · obtain ⟨τ1, τ2, e1, e2, e3, e4, e5, e6⟩ := year25 hτ i2 hRB hr
      obtain ⟨σ2, z1, z2⟩ := even33_c h0 hf hr m (k + 1) fu τ2 (by omega) (by omega) ((i1.tr e3).tr e4) e6
      refine ⟨σ2, ?_, z2⟩
      rw [evN, if_neg hz, ← z1]
      have hτ1 := hτ.fr e3
      have hz' : ¬ nI (ro (yrN P q rain r k) f) = 0 := nI_ne0 (by omega) (by omega)
      simp (disch := omega) only [fc11_even_33, y60, nI_ltI, c, if_true, if_false, ↓reduceIte, and_true, true_and, and_false, false_and, not_true_eq_false, not_false_eq_true, and_self, qR, PK hτ.1, bnd, ldI_lo, A26 hτ.1, nI_clamp, e, hz', e1, PK hτ1.1, e2, nI_1]
theorem even_c (h : Qc N σ P r q b) {f rain : Nat} (hf : f < pn P) (hr : rain ≤ 99) : ∃ σ' : Me, fc11_even N 0 (nI f) (nI rain) σ = some (oI (evN P q rain r f 61 0), σ') ∧ Fr (cX b) σ σ' := by
  obtain ⟨σ1, c1, c2, c3⟩ := copy25 h
  have b6 := h.2.2.1.1
  have h9 := h.2.2.2.2.2.2.2.2
  obtain ⟨σ', z1, z2⟩ := even33_c h hf hr 61 0 N σ1 (by omega) (by omega) c2 c3
  refine ⟨σ', ?_, z2⟩
  rw [← z1]
  have cc : ¬ (1 : Int32) = 0 := by decide
  simp (disch := omega) only [fc11_even, qR, PK h.1, bnd, has_y h.1 (.inl rfl) h.2.1.1 b6 hf, cc, rain_y hr, c1, if_true, if_false, ↓reduceIte, and_true, true_and, and_false, false_and, not_true_eq_false, not_false_eq_true, and_self]
  rfl
theorem even_n (h : Sh σ) {n : Nat} (hn : mi σ 19 5 = nI n) (h6 : n ≤ 6) {x y : Int32} (hx : ¬ ∃ f j : Nat, f < n ∧ j < 100 ∧ x = nI f ∧ y = nI j) : fc11_even N 0 x y σ = some (-1, σ) := by
  have c : ¬ (1 : Int32) = 0 := by decide
  rcases nix x (n := n) (by omega) with q | ⟨i, hi, rfl⟩
  · simp (disch := omega) only [fc11_even, qR, PK h, bnd, has_n h (.inl rfl) hn q, if_true, if_false, ↓reduceIte, and_true, true_and, and_false, false_and, not_true_eq_false, not_false_eq_true, and_self]
  · rcases nix y (n := 100) (by omega) with q | ⟨j, hj, rfl⟩
    · simp (disch := omega) only [fc11_even, qR, PK h, bnd, has_y h (.inl rfl) hn h6 hi, rain_n q, c, if_true, if_false, ↓reduceIte, and_true, true_and, and_false, false_and, not_true_eq_false, not_false_eq_true, and_self]
    · exact absurd ⟨i, j, hi, hj, rfl, rfl⟩ hx
def tgN (P : Pl) (q : PF) (rain : Nat) (r : Rw) : Nat → Nat → Option Nat
  | 0, _ => none
  | m + 1, k => if bc (bitsY P q (yrN P q rain r k) rain) < 2 then tgN P q rain r m (k + 1) else some (k + 1)
theorem together23_c (h0 : Qc N σ P r q b) {rain : Nat} (hr : rain ≤ 99) : ∀ (m k fu : Nat) (τ : Me), k + m = 60 → m < fu → Fr (cX b) σ τ → LdC τ 25 P (yrN P q rain r k) →
    ∃ σ' : Me, fc11_together_23 N fu (some 0) (nI rain) (nI (k + 1)) τ = some (oI (tgN P q rain r m k), σ') ∧ Fr (cX b) σ σ'
  | _, _, 0, _, _, h0, _, _ => absurd h0 (Nat.not_lt_zero _)
  | 0, k, fu + 1, τ, hk, _, i1, i2 => by
    refine ⟨τ, ?_, i1⟩
    have c : 60 < k + 1 := by omega
    simp (disch := omega) only [fc11_together_23, y60, nI_ltI, c, if_true, if_false, ↓reduceIte, and_true, true_and, and_false, false_and, not_true_eq_false, not_false_eq_true, and_self]
    rfl
  | m + 1, k, fu + 1, τ, hk, hfu, i1, i2 => by
    have hτ := h0.fr i1
    have hB := h0.2.2.2.1
    have ht := h0.2.2.2.2.2.1
    have hRB := (yrN_B (q := q) (rain := rain) hB k (by omega)).1
    obtain ⟨τ1, τ2, e1, e2, e3, e4, e5, e6⟩ := year25 hτ i2 hRB hr
    have hτ1 := hτ.fr e3
    have c : ¬ 60 < k + 1 := by omega
    have hb := bitsY_lt (q := q) (r := yrN P q rain r k) h0.2.2.1 rain
    have hc6 := bc_le (bitsY P q (yrN P q rain r k) rain)
    by_cases hz : bc (bitsY P q (yrN P q rain r k) rain) < 2
    · obtain ⟨σ2, z1, z2⟩ := together23_c h0 hr m (k + 1) fu τ2 (by omega) (by omega) ((i1.tr e3).tr e4) e6
      refine ⟨σ2, ?_, z2⟩
      rw [tgN, if_pos hz, ← z1]
      simp (disch := omega) only [fc11_together_23, y60, y2, nI_ltI, c, if_true, if_false, ↓reduceIte, and_true, true_and, and_false, false_and, not_true_eq_false, not_false_eq_true, and_self, qR, qI, PK hτ.1, bnd, e1, PK hτ1.1, e5.2.2.1, bc_c N hb, hz, e2, nI_1]
    · refine ⟨τ1, ?_, i1.tr e3⟩
      rw [tgN, if_neg hz]
      simp (disch := omega) only [fc11_together_23, y60, y2, nI_ltI, c, if_true, if_false, ↓reduceIte, and_true, true_and, and_false, false_and, not_true_eq_false, not_false_eq_true, and_self, qR, qI, PK hτ.1, bnd, e1, PK hτ1.1, e5.2.2.1, bc_c N hb, hz]
      rfl
theorem together_c (h : Qc N σ P r q b) {rain : Nat} (hr : rain ≤ 99) : ∃ σ' : Me, fc11_together N 0 (nI rain) σ = some (oI (tgN P q rain r 60 0), σ') ∧ Fr (cX b) σ σ' := by
  obtain ⟨σ1, c1, c2, c3⟩ := copy25 h
  have b6 := h.2.2.1.1
  have b2 := h.2.2.2.2.1
  have h9 := h.2.2.2.2.2.2.2.2
  obtain ⟨σ', z1, z2⟩ := together23_c h hr 60 0 N σ1 (by omega) (by omega) c2 c3
  refine ⟨σ', ?_, z2⟩
  rw [← z1]
  have cc : ¬ (1 : Int32) = 0 := by decide
  simp (disch := omega) only [fc11_together, qR, PK h.1, bnd, sky_y h.1 h.2.1.1 b6 (show 0 < pn P by omega) hr, cc, c1, if_true, if_false, ↓reduceIte, and_true, true_and, and_false, false_and, not_true_eq_false, not_false_eq_true, and_self]
  rfl
theorem together_n (h : Sh σ) {n : Nat} (hn : mi σ 19 5 = nI n) (h6 : n ≤ 6) {x : Int32} (hx : n = 0 ∨ x < 0 ∨ nI 100 ≤ x) : fc11_together N 0 x σ = some (-1, σ) := by
  simp (disch := omega) only [fc11_together, PK h, bnd, sky_n h hn h6 hx, if_true, if_false, ↓reduceIte, and_true, true_and, and_false, false_and, not_true_eq_false, not_false_eq_true, and_self]
/-! games -/
def rPlay (r : Rw) (i j x y : Nat) : Rw := (fun f => if f = j then ro r j - y else if f = i then ro r i - x else ro r f, r.2)
theorem ro_play (r : Rw) (i j x y f : Nat) : ro (rPlay r i j x y) f = if f = j then ro r j - y else if f = i then ro r i - x else ro r f := rfl
theorem RwB.play {n i j x y : Nat} (h : RwB n r) (hi : i < n) (hj : j < n) : RwB n (rPlay r i j x y) := by
  refine ⟨h.1, h.2.1, fun f hf => ⟨?_, (h.2.2 f hf).2⟩⟩
  have h1 := (h.2.2 f hf).1
  have h2 := (h.2.2 i hi).1
  have h3 := (h.2.2 j hj).1
  rw [ro_play]
  split
  · omega
  · split
    · omega
    · exact h1
theorem play_g (h : Qc N σ P r q b) {i j rain x y : Nat} (hi : i < pn P) (hj : j < pn P) (hij : i ≠ j) (hr : rain ≤ 99) (hx : x < 6) (hy : y < 6) :
    ∃ σ' : Me, fc11_play N 0 (nI i) (nI j) (nI rain) (nI x) (nI y) σ = some ((), σ') ∧ Fr (gX b) σ σ' ∧ LkC σ' P q (rPlay r i j x y) rain := by
  obtain ⟨σ1, c1, c2, c3⟩ := copy25_g h
  have h1 := h.fr c2.gc
  have b6 := h.2.2.1.1
  have hB := h.2.2.2.1
  obtain ⟨l5, l6, l7, l8, l9, lf⟩ := id c3
  have e1 := (lf i hi).1
  have e2 := (lf j hj).1
  have b1 := (hB.2.2 i hi).1
  have b2 := (hB.2.2 j hj).1
  have s1 : nI (ro r i) - nI (min x (ro r i)) = nI (ro r i - x) := by rw [pk_sub (Nat.min_le_right _ _), show ro r i - min x (ro r i) = ro r i - x by omega]
  have s2 : nI (ro r j) - nI (min y (ro r j)) = nI (ro r j - y) := by rw [pk_sub (Nat.min_le_right _ _), show ro r j - min y (ro r j) = ro r j - y by omega]
  have f2 : Fr (gX b) σ1 (setI (setI σ1 26 i (nI (ro r i - x))) 26 j (nI (ro r j - y))) := fr_I (by simp [gX]) (fr_I (by simp [gX]) (Fr.rf _ _))
  have h2 := h1.fr f2.gc
  have hL2 : LdC (setI (setI σ1 26 i (nI (ro r i - x))) 26 j (nI (ro r j - y))) 25 P (rPlay r i j x y) := by
    refine ⟨l5, l6, l7, l8, l9, fun f hf => ?_⟩
    obtain ⟨g1, g2, g3, g4, g5⟩ := lf f hf
    refine ⟨?_, g2, g3, g4, g5⟩
    rw [ro_play]
    by_cases w : f = j
    · subst w; rw [if_pos rfl, mi_eq]
    · rw [if_neg w, mi_ne _ _ (by omega)]
      by_cases w2 : f = i
      · subst w2; rw [if_pos rfl, mi_eq]
      · rw [if_neg w2, mi_ne _ _ (by omega)]; exact g1
  obtain ⟨σ3, d1, d2, d3, d4⟩ := look25_g h2 hL2 (hB.play hi hj) hr
  refine ⟨σ3, ?_, (c2.tr f2).tr d2, d3⟩
  have hji : j ≠ i := fun e => hij e.symm
  have e2' : mi (setI σ1 26 i (nI (ro r i - x))) 26 j = nI (ro r j) := by rw [mi_ne _ _ (by omega)]; exact e2
  simp (disch := omega) only [fc11_play, qR, PK h.1, bnd, c1, PK h1.1, ldI_lo, A26 h1.1, nI_clamp, e1, min_N, s1, stI, dr_setI, mr_setI, arr_setI, e2', s2, d1]
theorem play_c (h : Qc N σ P r q b) {i j rain x y : Nat} (hi : i < pn P) (hj : j < pn P) (hij : i ≠ j) (hr : rain ≤ 99) (hx : x < 6) (hy : y < 6) :
    ∃ σ' : Me, fc11_play N 0 (nI i) (nI j) (nI rain) (nI x) (nI y) σ = some ((), σ') ∧ Fr (cX b) σ σ' ∧ LkC σ' P q (rPlay r i j x y) rain := by
  obtain ⟨σ1, c1, c2, c3⟩ := copy25 h
  have h1 := h.fr c2
  have b6 := h.2.2.1.1
  have hB := h.2.2.2.1
  obtain ⟨l5, l6, l7, l8, l9, lf⟩ := id c3
  have e1 := (lf i hi).1
  have e2 := (lf j hj).1
  have b1 := (hB.2.2 i hi).1
  have b2 := (hB.2.2 j hj).1
  have s1 : nI (ro r i) - nI (min x (ro r i)) = nI (ro r i - x) := by rw [pk_sub (Nat.min_le_right _ _), show ro r i - min x (ro r i) = ro r i - x by omega]
  have s2 : nI (ro r j) - nI (min y (ro r j)) = nI (ro r j - y) := by rw [pk_sub (Nat.min_le_right _ _), show ro r j - min y (ro r j) = ro r j - y by omega]
  have f2 : Fr (cX b) σ1 (setI (setI σ1 26 i (nI (ro r i - x))) 26 j (nI (ro r j - y))) := fr_I (by simp [cX]) (fr_I (by simp [cX]) (Fr.rf _ _))
  have h2 := h1.fr f2
  have hL2 : LdC (setI (setI σ1 26 i (nI (ro r i - x))) 26 j (nI (ro r j - y))) 25 P (rPlay r i j x y) := by
    refine ⟨l5, l6, l7, l8, l9, fun f hf => ?_⟩
    obtain ⟨g1, g2, g3, g4, g5⟩ := lf f hf
    refine ⟨?_, g2, g3, g4, g5⟩
    rw [ro_play]
    by_cases w : f = j
    · subst w; rw [if_pos rfl, mi_eq]
    · rw [if_neg w, mi_ne _ _ (by omega)]
      by_cases w2 : f = i
      · subst w2; rw [if_pos rfl, mi_eq]
      · rw [if_neg w2, mi_ne _ _ (by omega)]; exact g1
  obtain ⟨σ3, d1, d2, d3, d4⟩ := look25 h2 hL2 (hB.play hi hj) hr
  refine ⟨σ3, ?_, (c2.tr f2).tr d2, d3⟩
  have hji : j ≠ i := fun e => hij e.symm
  have e2' : mi (setI σ1 26 i (nI (ro r i - x))) 26 j = nI (ro r j) := by rw [mi_ne _ _ (by omega)]; exact e2
  simp (disch := omega) only [fc11_play, qR, PK h.1, bnd, c1, PK h1.1, ldI_lo, A26 h1.1, nI_clamp, e1, min_N, s1, stI, dr_setI, mr_setI, arr_setI, e2', s2, d1]
theorem move_y {x : Nat} (hx : x < 6) : fc11_isMove N (nI x) σ = some (1, σ) := by
  have c : ¬ 6 ≤ x := by omega
  have c0 := nI_pos (n := x) (by omega)
  simp (disch := omega) only [fc11_isMove, c0, y6, nI_leI, c, if_true, if_false, ↓reduceIte, and_true, true_and, and_false, false_and, not_true_eq_false, not_false_eq_true, and_self, retZ1]
theorem move_n {x : Int32} (hx : x < 0 ∨ nI 6 ≤ x) : fc11_isMove N x σ = some (0, σ) := by
  unfold fc11_isMove
  by_cases c : x < 0
  · rw [if_pos c]; rfl
  · rw [if_neg c, y6, if_pos (hx.resolve_left c)]; rfl
theorem game_c (h : Qc N σ P r q b) {i j rain x y w : Nat} (hi : i < pn P) (hj : j < pn P) (hij : i ≠ j) (hr : rain ≤ 99) (hx : x < 6) (hy : y < 6) (hw : w ≤ 1) :
    ∃ σ' : Me, fc11_game N 0 (nI i) (nI j) (nI rain) (nI x) (nI y) (nI w) σ = some (if w = 0 then nI (brnY P q (rPlay r i j x y) rain i) - nI x else nI (brnY P q (rPlay r i j x y) rain j) - nI y, σ') ∧ Fr (cX b) σ σ' := by
  obtain ⟨σ1, c1, c2, c3⟩ := play_c h hi hj hij hr hx hy
  have h1 := h.fr c2
  have b6 := h.2.2.1.1
  have cc : ¬ (1 : Int32) = 0 := by decide
  have e1 := (c3.2.2.2.2 i hi).2.2
  have e2 := (c3.2.2.2.2 j hj).2.2
  refine ⟨σ1, ?_, c2⟩
  have : w = 0 ∨ w = 1 := by omega
  rcases this with rfl | rfl
  · have d1 : ¬ (0 : Int32) < 0 := by decide
    have d2 : (0 : Int32) ≤ 1 := by decide
    simp (disch := omega) only [fc11_game, PK h.1, bnd, pair_y h.1 h.2.1.1 b6 hi hj hij, rain_y hr, move_y hx, move_y hy, cc, d1, d2, nI_0, if_true, if_false, ↓reduceIte, and_true, true_and, and_false, false_and, not_true_eq_false, not_false_eq_true, and_self, c1, qR, PK h1.1, ldI_lo, A35 h1.1, nI_clamp, e1]
  · have d1 := nI_pos (n := 1) (by omega)
    have d2 : (1 : Nat) ≤ 1 := by decide
    have d3 : ¬ nI 1 = 0 := by decide
    have d4 : ¬ (1 : Nat) = 0 := by decide
    simp (disch := omega) only [fc11_game, PK h.1, bnd, pair_y h.1 h.2.1.1 b6 hi hj hij, rain_y hr, move_y hx, move_y hy, cc, d1, y1, nI_leI, d2, d3, d4, if_true, if_false, ↓reduceIte, and_true, true_and, and_false, false_and, not_true_eq_false, not_false_eq_true, and_self, c1, qR, PK h1.1, ldI_lo, A35 h1.1, nI_clamp, e2]
theorem game_n (h : Sh σ) {n : Nat} (hn : mi σ 19 5 = nI n) (h6 : n ≤ 6) {x1 x2 x3 x4 x5 x6 : Int32} (hx : ¬ ∃ i j rain x y w : Nat, i < n ∧ j < n ∧ i ≠ j ∧ rain < 100 ∧ x < 6 ∧ y < 6 ∧ w ≤ 1 ∧ x1 = nI i ∧ x2 = nI j ∧ x3 = nI rain ∧ x4 = nI x ∧ x5 = nI y ∧ x6 = nI w) : fc11_game N 0 x1 x2 x3 x4 x5 x6 σ = some (-1000000, σ) := by
  have c : ¬ (1 : Int32) = 0 := by decide
  by_cases hp : ∃ i j : Nat, i < n ∧ j < n ∧ i ≠ j ∧ x1 = nI i ∧ x2 = nI j
  · obtain ⟨i, j, hi, hj, hij, rfl, rfl⟩ := hp
    rcases nix x3 (n := 100) (by omega) with q3 | ⟨rain, hr, rfl⟩
    · simp (disch := omega) only [fc11_game, PK h, bnd, pair_y h hn h6 hi hj hij, rain_n q3, c, if_true, if_false, ↓reduceIte, and_true, true_and, and_false, false_and, not_true_eq_false, not_false_eq_true, and_self]
    · have hr' : rain ≤ 99 := by omega
      rcases nix x4 (n := 6) (by omega) with q4 | ⟨x, hx4, rfl⟩
      · simp (disch := omega) only [fc11_game, PK h, bnd, pair_y h hn h6 hi hj hij, rain_y hr', move_n q4, c, if_true, if_false, ↓reduceIte, and_true, true_and, and_false, false_and, not_true_eq_false, not_false_eq_true, and_self]
      · rcases nix x5 (n := 6) (by omega) with q5 | ⟨y, hx5, rfl⟩
        · simp (disch := omega) only [fc11_game, PK h, bnd, pair_y h hn h6 hi hj hij, rain_y hr', move_y hx4, move_n q5, c, if_true, if_false, ↓reduceIte, and_true, true_and, and_false, false_and, not_true_eq_false, not_false_eq_true, and_self]
        · by_cases c1 : x6 < 0
          · simp (disch := omega) only [fc11_game, PK h, bnd, pair_y h hn h6 hi hj hij, rain_y hr', move_y hx4, move_y hx5, c, c1, if_true, if_false, ↓reduceIte, and_true, true_and, and_false, false_and, not_true_eq_false, not_false_eq_true, and_self]
          · by_cases c2 : x6 ≤ 1
            · exfalso
              obtain ⟨w, hw, rfl⟩ := nI_of c1
              rw [y1, nI_leI hw (by decide)] at c2
              exact hx ⟨i, j, rain, x, y, w, hi, hj, hij, hr, hx4, hx5, c2, rfl, rfl, rfl, rfl, rfl, rfl⟩
            · simp (disch := omega) only [fc11_game, PK h, bnd, pair_y h hn h6 hi hj hij, rain_y hr', move_y hx4, move_y hx5, c, c1, c2, if_true, if_false, ↓reduceIte, and_true, true_and, and_false, false_and, not_true_eq_false, not_false_eq_true, and_self]
  · simp (disch := omega) only [fc11_game, PK h, bnd, pair_n h hn h6 hp, if_true, if_false, ↓reduceIte, and_true, true_and, and_false, false_and, not_true_eq_false, not_false_eq_true, and_self]
end QS
