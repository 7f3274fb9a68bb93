/-! questions to the reference: a year tried, years ahead, games -/
/-- the reference answers v, and only its own scratch cells changed -/
def Am (S : Sy) (σ : Me) (v : Int32) (o : Option (Int32 × Me)) : Prop := ∃ σ' : Me, o = some (v, σ') ∧ Fr mX σ σ' ∧ MemoM σ' (sL S)
section MK
variable {N : Nat} {σ : Me} {S : Sy}
theorem Am.n (h : RM σ S) (v : Int32) : Am S σ v (some (v, setI σ 60 0 0)) := ⟨_, rfl, th0_fr, h.2.1.2.2.2.fr (X := fun a _ => a == 60) (fr_I rfl (Fr.rf _ _)) (fun _ => ⟨rfl, rfl⟩)⟩
theorem Am.of {o : Option (Int32 × Me)} {v : Int32} {σ' : Me} (e : o = some (v, σ')) (f : Fr mX (setI σ 60 0 0) σ') (q : Qm N σ' S) : Am S σ v o := ⟨σ', e, th0_fr.tr f, q.memo⟩
theorem Qm.n0 (h : Qm N σ S) : ¬ nI (pn (sQ S)) = 0 := nI_ne0 (by have := h.2.2.2.1; omega) (by have := h.2.2.1.n6; omega)
theorem Qm.n24 (h : Qm N σ S) : mi σ 60 24 = nI (pn (sQ S)) := h.2.1.2.2.2.2.1.1.1
theorem RM.n24 (h : RM σ S) : mi σ 60 24 = nI (pn (sQ S)) := h.2.2.2.2.1.1.1
theorem one0 : ¬ (1 : Int32) = 0 := by decide
theorem falls_m (h : Qm N σ S) {f rain : Nat} (hf : f < pn (sQ S)) (hr : rain ≤ 99) : Am S σ (nI (falY (sQ S) (sq S) (sR S) rain f)) (fc12_falls N 60 (nI f) (nI rain) σ) := by
  have hq := h.th
  have b6 := h.2.2.1.n6
  obtain ⟨σ1, t1, t2, t3, t4, t5⟩ := hq.tries hr
  refine Am.of ?_ t2 t3
  have ef := (t5.2.2 f hf).1
  rw [fc12_falls, th0 h.1, bnd]
  simp (disch := omega) only [PN hq.1, bnd, mfield_y hq.1 hq.n24 b6 hf, one0, if_true, if_false, ↓reduceIte, and_true, true_and, and_false, false_and, not_true_eq_false, not_false_eq_true, and_self, mrain_y hr, t1, qR, PN t3.1, ldI_lo, A75 t3.1, nI_clamp, ef]
theorem falls_mn (h : Sh σ) (hr : RM σ S) (hw : WS S) {x y : Int32} (hx : ¬ ∃ f j : Nat, f < pn (sQ S) ∧ j ≤ 99 ∧ x = nI f ∧ y = nI j) : fc12_falls N 60 x y σ = some (-1, setI σ 60 0 0) := by
  have b6 := hw.n6
  have ht : Sh (setI σ 60 0 0) := h
  have hn := (hr.th hw).n24
  rw [fc12_falls, th0 h, bnd]
  rcases nix x (n := pn (sQ S)) (by omega) with q | ⟨f, hf, rfl⟩
  · simp (disch := omega) only [PN ht, bnd, mfield_n ht hn q, if_true, if_false, ↓reduceIte, and_true, true_and, and_false, false_and, not_true_eq_false, not_false_eq_true, and_self]
  · simp (disch := omega) only [PN ht, bnd, mfield_y ht hn b6 hf, one0, if_true, if_false, ↓reduceIte, and_true, true_and, and_false, false_and, not_true_eq_false, not_false_eq_true, and_self, mrain_n (x := y) (fun ⟨j, h1, h2⟩ => hx ⟨f, j, hf, h1, rfl, h2⟩)]
theorem drowns_m (h : Qm N σ S) {rain : Nat} (hr : rain ≤ 99) : Am S σ (nI (bitsY (sQ S) (sq S) (sR S) rain)) (fc12_drowns N 60 (nI rain) σ) := by
  have hq := h.th
  obtain ⟨σ1, t1, t2, t3, t4, t5⟩ := hq.tries hr
  refine Am.of ?_ t2 t3
  have ef := t5.1
  rw [fc12_drowns, th0 h.1, bnd]
  simp (disch := omega) only [qI, PN hq.1, bnd, hq.n24, hq.n0, one0, if_true, if_false, ↓reduceIte, and_true, true_and, and_false, false_and, not_true_eq_false, not_false_eq_true, and_self, mrain_y hr, t1, PN t3.1, ef]
theorem sky_mn (h : RM σ S) (hw : WS S) {x : Int32} (hx : ¬ ∃ j : Nat, pn (sQ S) ≠ 0 ∧ j ≤ 99 ∧ x = nI j) : mi (setI σ 60 0 0) 60 24 = nI 0 ∨ (mi (setI σ 60 0 0) 60 24 = nI (pn (sQ S)) ∧ ¬ nI (pn (sQ S)) = 0 ∧ ∀ τ, fc12_isRain N x τ = some (0, τ)) := by
  have b6 := hw.n6
  have hn := (h.th hw).n24
  by_cases h0 : pn (sQ S) = 0
  · rw [h0] at hn; exact .inl hn
  · exact .inr ⟨hn, nI_ne0 (by omega) (by omega), fun τ => mrain_n (fun ⟨j, h1, h2⟩ => hx ⟨j, h0, h1, h2⟩)⟩
theorem drowns_mn (h : Sh σ) (hr : RM σ S) (hw : WS S) {x : Int32} (hx : ¬ ∃ j : Nat, pn (sQ S) ≠ 0 ∧ j ≤ 99 ∧ x = nI j) : fc12_drowns N 60 x σ = some (-1, setI σ 60 0 0) := by
  have ht : Sh (setI σ 60 0 0) := h
  rw [fc12_drowns, th0 h, bnd]
  rcases sky_mn (N := N) hr hw hx with e | ⟨e1, e2, e3⟩
  · simp (disch := omega) only [qI, PN ht, bnd, e, nI_0, if_true, if_false, ↓reduceIte, and_true, true_and, and_false, false_and, not_true_eq_false, not_false_eq_true, and_self]
  · simp (disch := omega) only [qI, PN ht, bnd, e1, e2, e3, if_true, if_false, ↓reduceIte, and_true, true_and, and_false, false_and, not_true_eq_false, not_false_eq_true, and_self]
theorem harvest_m (h : Qm N σ S) {rain : Nat} (hr : rain ≤ 99) : Am S σ (nI (borY (sQ S) (sq S) (sR S) rain)) (fc12_harvest N 60 (nI rain) σ) := by
  have hq := h.th
  obtain ⟨σ1, t1, t2, t3, t4, t5⟩ := hq.tries hr
  refine Am.of ?_ t2 t3
  have ef := t5.2.1
  rw [fc12_harvest, th0 h.1, bnd]
  simp (disch := omega) only [qI, PN hq.1, bnd, hq.n24, hq.n0, one0, if_true, if_false, ↓reduceIte, and_true, true_and, and_false, false_and, not_true_eq_false, not_false_eq_true, and_self, mrain_y hr, t1, PN t3.1, ef]
theorem harvest_mn (h : Sh σ) (hr : RM σ S) (hw : WS S) {x : Int32} (hx : ¬ ∃ j : Nat, pn (sQ S) ≠ 0 ∧ j ≤ 99 ∧ x = nI j) : fc12_harvest N 60 x σ = some (-1, setI σ 60 0 0) := by
  have ht : Sh (setI σ 60 0 0) := h
  rw [fc12_harvest, th0 h, bnd]
  rcases sky_mn (N := N) hr hw hx with e | ⟨e1, e2, e3⟩
  · simp (disch := omega) only [qI, PN ht, bnd, e, nI_0, if_true, if_false, ↓reduceIte, and_true, true_and, and_false, false_and, not_true_eq_false, not_false_eq_true, and_self]
  · simp (disch := omega) only [qI, PN ht, bnd, e1, e2, e3, if_true, if_false, ↓reduceIte, and_true, true_and, and_false, false_and, not_true_eq_false, not_false_eq_true, and_self]
theorem safe17_m : ∀ (m fu : Nat) (σ : Me), m ≤ 100 → m < fu → Qm N σ S → ∃ σ' : Me, fc12_safe_17 N fu (some 60) (if m = 0 then -nI 1 else nI (m - 1)) σ = some (oI (sfN (sQ S) (sq S) (sR S) m), σ') ∧ Fr mX σ σ' ∧ Qm N σ' S
  | _, 0, _, _, h0, _ => absurd h0 (Nat.not_lt_zero _)
  | 0, fu + 1, σ, _, _, h => by
    refine ⟨σ, ?_, Fr.rf _ _, h⟩
    have c : -nI 1 < 0 := by decide
    simp only [fc12_safe_17, c, if_true, if_false, ↓reduceIte, and_true, true_and, and_false, false_and, not_true_eq_false, not_false_eq_true, and_self]
    rfl
  | m + 1, fu + 1, σ, hm, h0, h => by
    obtain ⟨σ1, t1, t2, t3, t4, t5⟩ := h.tries (rain := m) (by omega)
    have c0 : ¬ m + 1 = 0 := by omega
    have cp := nI_pos (n := m) (by omega)
    rw [if_neg c0, Nat.add_sub_cancel]
    obtain ⟨a1, a2, -⟩ := h.2.2.1.hs.yes h.2.2.2.1
    have hb := bitsY_lt (q := sq S) (r := sR S) a2 m
    by_cases hd : bitsY (sQ S) (sq S) (sR S) m = 0
    · refine ⟨σ1, ?_, t2, t3⟩
      rw [sfN, if_pos hd]
      have l36 := t5.1
      rw [hd] at l36
      simp (disch := omega) only [fc12_safe_17, cp, qI, PN h.1, bnd, t1, PN t3.1, l36, nI_0, if_true, if_false, ↓reduceIte, and_true, true_and, and_false, false_and, not_true_eq_false, not_false_eq_true, and_self]
      rfl
    · obtain ⟨σ2, z1, z2, z3⟩ := safe17_m m fu σ1 (by omega) (by omega) t3
      refine ⟨σ2, ?_, t2.tr z2, z3⟩
      rw [sfN, if_neg hd, ← z1]
      have e : nI m + -nI 1 = if m = 0 then -nI 1 else nI (m - 1) := by
        by_cases c : m = 0
        · rw [if_pos c, c]; rfl
        · rw [if_neg c]
          obtain ⟨k, rfl⟩ : ∃ k, m = k + 1 := ⟨m - 1, by omega⟩
          rw [nI_p1]; rfl
      have hd' : ¬ nI (bitsY (sQ S) (sq S) (sR S) m) = 0 := nI_ne0 (by omega) (by omega)
      simp (disch := omega) only [fc12_safe_17, cp, qI, PN h.1, bnd, t1, PN t3.1, t5.1, y1, hd', if_true, if_false, ↓reduceIte, and_true, true_and, and_false, false_and, not_true_eq_false, not_false_eq_true, and_self, e]
theorem safe_m (h : Qm N σ S) : Am S σ (oI (sfN (sQ S) (sq S) (sR S) 100)) (fc12_safe N 60 σ) := by
  have hq := h.th
  have hN := h.2.2.2.2.2
  obtain ⟨σ', z1, z2, z3⟩ := safe17_m 100 N _ (by omega) (by omega) hq
  refine Am.of ?_ z2 z3
  rw [← z1, fc12_safe, th0 h.1, bnd]
  simp (disch := omega) only [qI, PN hq.1, bnd, hq.n24, hq.n0, if_true, if_false, ↓reduceIte, and_true, true_and, and_false, false_and, not_true_eq_false, not_false_eq_true, and_self]
  rfl
theorem safe_mn (h : Sh σ) (hr : RM σ S) (hw : WS S) (h0 : pn (sQ S) = 0) : fc12_safe N 60 σ = some (-1, setI σ 60 0 0) := by
  have ht : Sh (setI σ 60 0 0) := h
  have hn := (hr.th hw).n24
  rw [h0] at hn
  rw [fc12_safe, th0 h, bnd]
  simp (disch := omega) only [qI, PN ht, bnd, hn, nI_0, if_true, if_false, ↓reduceIte, and_true, true_and, and_false, false_and, not_true_eq_false, not_false_eq_true, and_self]
theorem odds40_m {f lo hi : Nat} (hf : f < pn (sQ S)) (hlo : lo ≤ hi) (hhi : hi ≤ 99) : ∀ (m k fu acc : Nat) (σ : Me), k + m = hi + 1 → lo ≤ k → acc ≤ k → m < fu → Qm N σ S →
    ∃ σ' : Me, fc12_odds_40 N fu (some 60) (nI f) (nI lo) (nI hi) (nI acc) (nI k) σ = some (nI (odN (sQ S) (sq S) (sR S) f m k acc * 1000000 / (hi - lo + 1)), σ') ∧ Fr mX σ σ' ∧ Qm N σ' S
  | _, _, 0, _, _, _, _, _, h0, _ => absurd h0 (Nat.not_lt_zero _)
  | 0, k, fu + 1, acc, σ, hk, hlk, ha, _, h => by
    refine ⟨σ, ?_, Fr.rf _ _, h⟩
    have c : hi < k := by omega
    have s1 := pk_sub hlo
    rw [odN]
    simp (disch := omega) only [fc12_odds_40, nI_ltI, c, if_true, if_false, ↓reduceIte, and_true, true_and, and_false, false_and, not_true_eq_false, not_false_eq_true, and_self, y1000000, y1, pk_mul, s1, nI_add, dv_n, bnd]
  | m + 1, k, fu + 1, acc, σ, hk, hlk, ha, h0, h => by
    obtain ⟨σ1, t1, t2, t3, t4, t5⟩ := h.tries (rain := k) (by omega)
    have b6 := h.2.2.1.n6
    obtain ⟨a1, a2, -⟩ := h.2.2.1.hs.yes h.2.2.2.1
    have hb := bitsY_lt (q := sq S) (r := sR S) a2 k
    have hbit := bit_at _ hb f (by omega)
    have h01 := bt_01 (bitsY (sQ S) (sq S) (sR S) k) f
    obtain ⟨σ2, z1, z2, z3⟩ := odds40_m hf hlo hhi m (k + 1) fu (acc + bt (bitsY (sQ S) (sq S) (sR S) k) f) σ1 (by omega) (by omega) (by omega) (by omega) t3
    refine ⟨σ2, ?_, t2.tr z2, z3⟩
    have c : ¬ hi < k := by omega
    rw [odN, ← z1]
    have x1 : fc12_odds_40 N (fu + 1) (some 60) (nI f) (nI lo) (nI hi) (nI acc) (nI k) σ = fc12_odds_40 N fu (some 60) (nI f) (nI lo) (nI hi) (nI acc + ((nI (bitsY (sQ S) (sq S) (sR S) k) >>> (nI f &&& 31)) &&& (1 : Int32))) (nI (k + 1)) σ1 := by
      simp (disch := omega) only [fc12_odds_40, nI_ltI, c, if_true, if_false, ↓reduceIte, and_true, true_and, and_false, false_and, not_true_eq_false, not_false_eq_true, and_self, qI, PN h.1, bnd, t1, PN t3.1, t5.1, nI_1]
    rw [x1, hbit, nI_add]
    rfl
theorem odds_m (h : Qm N σ S) {f lo hi : Nat} (hf : f < pn (sQ S)) (hlo : lo ≤ hi) (hhi : hi ≤ 99) : Am S σ (nI (odN (sQ S) (sq S) (sR S) f (hi + 1 - lo) lo 0 * 1000000 / (hi - lo + 1))) (fc12_odds N 60 (nI f) (nI lo) (nI hi) σ) := by
  have hq := h.th
  have b6 := h.2.2.1.n6
  have hN := h.2.2.2.2.2
  obtain ⟨σ', z1, z2, z3⟩ := odds40_m (N := N) hf hlo hhi (hi + 1 - lo) lo N 0 _ (by omega) (by omega) (by omega) (by omega) hq
  refine Am.of ?_ z2 z3
  rw [← z1, fc12_odds, th0 h.1, bnd]
  simp (disch := omega) only [PN hq.1, bnd, mfield_y hq.1 hq.n24 b6 hf, mrain_y (show lo ≤ 99 by omega), mrain_y hhi, one0, if_true, if_false, ↓reduceIte, and_true, true_and, and_false, false_and, not_true_eq_false, not_false_eq_true, and_self, nI_leI, hlo]
  rfl
theorem odds_mn (h : Sh σ) (hr : RM σ S) (hw : WS S) {x y z : Int32} (hx : ¬ ∃ f lo hi : Nat, f < pn (sQ S) ∧ lo ≤ hi ∧ hi ≤ 99 ∧ x = nI f ∧ y = nI lo ∧ z = nI hi) : fc12_odds N 60 x y z σ = some (-1, setI σ 60 0 0) := by
  have b6 := hw.n6
  have ht : Sh (setI σ 60 0 0) := h
  have hn := (hr.th hw).n24
  rw [fc12_odds, th0 h, bnd]
  rcases nix x (n := pn (sQ S)) (by omega) with q | ⟨f, hf, rfl⟩
  · simp (disch := omega) only [PN ht, bnd, mfield_n ht hn q, if_true, if_false, ↓reduceIte, and_true, true_and, and_false, false_and, not_true_eq_false, not_false_eq_true, and_self]
  · by_cases c1 : ∃ j : Nat, j ≤ 99 ∧ y = nI j
    · obtain ⟨lo, h1, rfl⟩ := c1
      by_cases c2 : ∃ j : Nat, j ≤ 99 ∧ z = nI j
      · obtain ⟨hi, h2, rfl⟩ := c2
        have c3 : ¬ lo ≤ hi := fun e => hx ⟨f, lo, hi, hf, e, h2, rfl, rfl, rfl⟩
        simp (disch := omega) only [PN ht, bnd, mfield_y ht hn b6 hf, mrain_y h1, mrain_y h2, one0, if_true, if_false, ↓reduceIte, and_true, true_and, and_false, false_and, not_true_eq_false, not_false_eq_true, and_self, nI_leI, c3]
      · simp (disch := omega) only [PN ht, bnd, mfield_y ht hn b6 hf, mrain_y h1, mrain_n c2, one0, if_true, if_false, ↓reduceIte, and_true, true_and, and_false, false_and, not_true_eq_false, not_false_eq_true, and_self]
    · simp (disch := omega) only [PN ht, bnd, mfield_y ht hn b6 hf, mrain_n c1, one0, if_true, if_false, ↓reduceIte, and_true, true_and, and_false, false_and, not_true_eq_false, not_false_eq_true, and_self]
/-! years ahead -/
theorem ahead48_m {f n rain : Nat} (hf : f < pn (sQ S)) (hn : n ≤ 30) (hr : rain ≤ 99) : ∀ (m k fu : Nat) (τ : Me), k + m = n → m < fu → Qm N τ S → TrM τ (sQ S) (yrN (sQ S) (sq S) rain (sR S) k) →
    ∃ σ' : Me, fc12_ahead_48 N fu (some 60) (nI f) (nI n) (nI rain) (nI k) τ = some (nI (ro (yrN (sQ S) (sq S) rain (sR S) n) f), σ') ∧ Fr mX τ σ' ∧ Qm N σ' S
  | _, _, 0, _, _, h0, _, _ => absurd h0 (Nat.not_lt_zero _)
  | 0, k, fu + 1, τ, hk, _, h, hT => by
    refine ⟨τ, ?_, Fr.rf _ _, h⟩
    have e := (hT.1.2.2 f hf).1
    have b6 := h.2.2.1.n6
    have hkn : k = n := by omega
    subst hkn
    have c : k ≤ k := Nat.le_refl _
    simp (disch := omega) only [fc12_ahead_48, nI_leI, c, if_true, if_false, ↓reduceIte, and_true, true_and, and_false, false_and, not_true_eq_false, not_false_eq_true, and_self, qR, PN h.1, bnd, i4, ip0, ldI_lo, A72 h.1, nI_clamp, e]
  | m + 1, k, fu + 1, τ, hk, hfu, h, hT => by
    obtain ⟨a1, a2, a3, a4, -⟩ := h.2.2.1.hs.yes h.2.2.2.1
    obtain ⟨τ1, g1, g2, -, g3, g4, -⟩ := h.year hT (yrN_B a3 k (by omega)).1 hr
    obtain ⟨σ', z1, z2, z3⟩ := ahead48_m hf hn hr m (k + 1) fu τ1 (by omega) (by omega) g3 g4
    refine ⟨σ', ?_, g2.tr z2, z3⟩
    have c : ¬ n ≤ k := by omega
    rw [← z1]
    simp (disch := omega) only [fc12_ahead_48, nI_leI, c, if_true, if_false, ↓reduceIte, and_true, true_and, and_false, false_and, not_true_eq_false, not_false_eq_true, and_self, qR, PN h.1, bnd, g1, nI_1]
theorem ahead_m (h : Qm N σ S) {f n rain : Nat} (hf : f < pn (sQ S)) (hn : n ≤ 30) (hr : rain ≤ 99) : Am S σ (nI (ro (yrN (sQ S) (sq S) rain (sR S) n) f)) (fc12_ahead N 60 (nI f) (nI n) (nI rain) σ) := by
  have hq := h.th
  have b6 := h.2.2.1.n6
  have hN := h.2.2.2.2.2
  obtain ⟨σ1, c1, c2, -, c3, c4⟩ := hq.copy
  obtain ⟨σ', z1, z2, z3⟩ := ahead48_m (N := N) hf hn hr n 0 N σ1 (by omega) (by omega) c3 c4
  refine Am.of ?_ (c2.tr z2) z3
  rw [← z1, fc12_ahead, th0 h.1, bnd]
  simp (disch := omega) only [PN hq.1, bnd, mfield_y hq.1 hq.n24 b6 hf, in0_30_y (Nat.zero_le n) hn, mrain_y hr, one0, if_true, if_false, ↓reduceIte, and_true, true_and, and_false, false_and, not_true_eq_false, not_false_eq_true, and_self, qR, c1]
  rfl
theorem ahead_mn (h : Sh σ) (hr : RM σ S) (hw : WS S) {x y z : Int32} (hx : ¬ ∃ f m j : Nat, f < pn (sQ S) ∧ m ≤ 30 ∧ j ≤ 99 ∧ x = nI f ∧ y = nI m ∧ z = nI j) : fc12_ahead N 60 x y z σ = some (-1, setI σ 60 0 0) := by
  have b6 := hw.n6
  have ht : Sh (setI σ 60 0 0) := h
  have hn := (hr.th hw).n24
  rw [fc12_ahead, th0 h, bnd]
  rcases nix x (n := pn (sQ S)) (by omega) with q | ⟨f, hf, rfl⟩
  · simp (disch := omega) only [PN ht, bnd, mfield_n ht hn q, if_true, if_false, ↓reduceIte, and_true, true_and, and_false, false_and, not_true_eq_false, not_false_eq_true, and_self]
  · by_cases c1 : ∃ j : Nat, 0 ≤ j ∧ j ≤ 30 ∧ y = nI j
    · obtain ⟨m, -, h1, rfl⟩ := c1
      simp (disch := omega) only [PN ht, bnd, mfield_y ht hn b6 hf, in0_30_y (Nat.zero_le m) h1, mrain_n (x := z) (fun ⟨j, e1, e2⟩ => hx ⟨f, m, j, hf, h1, e1, rfl, rfl, e2⟩), one0, if_true, if_false, ↓reduceIte, and_true, true_and, and_false, false_and, not_true_eq_false, not_false_eq_true, and_self]
    · simp (disch := omega) only [PN ht, bnd, mfield_y ht hn b6 hf, in0_30_n c1, one0, if_true, if_false, ↓reduceIte, and_true, true_and, and_false, false_and, not_true_eq_false, not_false_eq_true, and_self]
theorem even35_m {f rain : Nat} (hf : f < pn (sQ S)) (hr : rain ≤ 99) : ∀ (m k fu : Nat) (τ : Me), k + m = 61 → m < fu → Qm N τ S → TrM τ (sQ S) (yrN (sQ S) (sq S) rain (sR S) k) →
    ∃ σ' : Me, fc12_even_35 N fu (some 60) (nI f) (nI rain) (nI k) τ = some (oI (evN (sQ S) (sq S) rain (sR S) f m k), σ') ∧ Fr mX τ σ' ∧ Qm N σ' S
  | _, _, 0, _, _, h0, _, _ => absurd h0 (Nat.not_lt_zero _)
  | 0, k, fu + 1, τ, hk, _, h, hT => by
    refine ⟨τ, ?_, Fr.rf _ _, h⟩
    have c : 60 < k := by omega
    simp (disch := omega) only [fc12_even_35, y60, nI_ltI, c, if_true, if_false, ↓reduceIte, and_true, true_and, and_false, false_and, not_true_eq_false, not_false_eq_true, and_self]
    rfl
  | m + 1, k, fu + 1, τ, hk, hfu, h, hT => by
    obtain ⟨a1, a2, a3, a4, -⟩ := h.2.2.1.hs.yes h.2.2.2.1
    have b6 := a2.1
    have hRB := (yrN_B (q := sq S) (rain := rain) a3 k (by omega)).1
    have e := (hT.1.2.2 f hf).1
    have eb := (hRB.2.2 f hf).1
    have c : ¬ 60 < k := by omega
    by_cases hz : ro (yrN (sQ S) (sq S) rain (sR S) k) f = 0
    · refine ⟨τ, ?_, Fr.rf _ _, h⟩
      rw [evN, if_pos hz]
      rw [hz] at e
      simp (disch := omega) only [fc12_even_35, y60, nI_ltI, c, if_true, if_false, ↓reduceIte, and_true, true_and, and_false, false_and, not_true_eq_false, not_false_eq_true, and_self, qR, PN h.1, bnd, i4, ip0, ldI_lo, A72 h.1, nI_clamp, e, nI_0]
      rfl
    · obtain ⟨τ1, g1, g2, -, g3, g4, -⟩ := h.year hT hRB hr
      obtain ⟨σ', z1, z2, z3⟩ := even35_m hf hr m (k + 1) fu τ1 (by omega) (by omega) g3 g4
      refine ⟨σ', ?_, g2.tr z2, z3⟩
      rw [evN, if_neg hz, ← z1]
      have hz' : ¬ nI (ro (yrN (sQ S) (sq S) rain (sR S) k) f) = 0 := nI_ne0 (by omega) (by omega)
      simp (disch := omega) only [fc12_even_35, y60, nI_ltI, c, if_true, if_false, ↓reduceIte, and_true, true_and, and_false, false_and, not_true_eq_false, not_false_eq_true, and_self, qR, PN h.1, bnd, i4, ip0, ldI_lo, A72 h.1, nI_clamp, e, hz', g1, nI_1]
theorem even_m (h : Qm N σ S) {f rain : Nat} (hf : f < pn (sQ S)) (hr : rain ≤ 99) : Am S σ (oI (evN (sQ S) (sq S) rain (sR S) f 61 0)) (fc12_even N 60 (nI f) (nI rain) σ) := by
  have hq := h.th
  have b6 := h.2.2.1.n6
  have hN := h.2.2.2.2.2
  obtain ⟨σ1, c1, c2, -, c3, c4⟩ := hq.copy
  obtain ⟨σ', z1, z2, z3⟩ := even35_m (N := N) hf hr 61 0 N σ1 (by omega) (by omega) c3 c4
  refine Am.of ?_ (c2.tr z2) z3
  rw [← z1, fc12_even, th0 h.1, bnd]
  simp (disch := omega) only [PN hq.1, bnd, mfield_y hq.1 hq.n24 b6 hf, mrain_y hr, one0, if_true, if_false, ↓reduceIte, and_true, true_and, and_false, false_and, not_true_eq_false, not_false_eq_true, and_self, qR, c1]
  rfl
theorem even_mn (h : Sh σ) (hr : RM σ S) (hw : WS S) {x y : Int32} (hx : ¬ ∃ f j : Nat, f < pn (sQ S) ∧ j ≤ 99 ∧ x = nI f ∧ y = nI j) : fc12_even N 60 x y σ = some (-1, setI σ 60 0 0) := by
  have b6 := hw.n6
  have ht : Sh (setI σ 60 0 0) := h
  have hn := (hr.th hw).n24
  rw [fc12_even, th0 h, bnd]
  rcases nix x (n := pn (sQ S)) (by omega) with q | ⟨f, hf, rfl⟩
  · simp (disch := omega) only [PN ht, bnd, mfield_n ht hn q, if_true, if_false, ↓reduceIte, and_true, true_and, and_false, false_and, not_true_eq_false, not_false_eq_true, and_self]
  · simp (disch := omega) only [PN ht, bnd, mfield_y ht hn b6 hf, one0, if_true, if_false, ↓reduceIte, and_true, true_and, and_false, false_and, not_true_eq_false, not_false_eq_true, and_self, mrain_n (x := y) (fun ⟨j, h1, h2⟩ => hx ⟨f, j, hf, h1, rfl, h2⟩)]
theorem together34_m {rain : Nat} (hr : rain ≤ 99) : ∀ (m k fu : Nat) (τ : Me), k + m = 60 → m < fu → Qm N τ S → TrM τ (sQ S) (yrN (sQ S) (sq S) rain (sR S) k) →
    ∃ σ' : Me, fc12_together_34 N fu (some 60) (nI rain) (nI (k + 1)) τ = some (oI (tgN (sQ S) (sq S) rain (sR S) m k), σ') ∧ Fr mX τ σ' ∧ Qm N σ' S
  | _, _, 0, _, _, h0, _, _ => absurd h0 (Nat.not_lt_zero _)
  | 0, k, fu + 1, τ, hk, _, h, hT => by
    refine ⟨τ, ?_, Fr.rf _ _, h⟩
    have c : 60 < k + 1 := by omega
    simp (disch := omega) only [fc12_together_34, y60, nI_ltI, c, if_true, if_false, ↓reduceIte, and_true, true_and, and_false, false_and, not_true_eq_false, not_false_eq_true, and_self]
    rfl
  | m + 1, k, fu + 1, τ, hk, hfu, h, hT => by
    obtain ⟨a1, a2, a3, a4, -⟩ := h.2.2.1.hs.yes h.2.2.2.1
    have hRB := (yrN_B (q := sq S) (rain := rain) a3 k (by omega)).1
    obtain ⟨τ1, g1, g2, -, g3, g4, g5⟩ := h.year hT hRB hr
    have c : ¬ 60 < k + 1 := by omega
    have hb := bitsY_lt (q := sq S) (r := yrN (sQ S) (sq S) rain (sR S) k) a2 rain
    have hc6 := bc_le (bitsY (sQ S) (sq S) (yrN (sQ S) (sq S) rain (sR S) k) rain)
    by_cases hz : bc (bitsY (sQ S) (sq S) (yrN (sQ S) (sq S) rain (sR S) k) rain) < 2
    · obtain ⟨σ', z1, z2, z3⟩ := together34_m hr m (k + 1) fu τ1 (by omega) (by omega) g3 g4
      refine ⟨σ', ?_, g2.tr z2, z3⟩
      have hz' : nI (bc (bitsY (sQ S) (sq S) (yrN (sQ S) (sq S) rain (sR S) k) rain)) ≤ (1 : Int32) := by rw [y1]; exact nI_le (by omega) (by decide)
      rw [tgN, if_pos hz, ← z1]
      simp (disch := omega) only [fc12_together_34, y60, nI_ltI, c, if_true, if_false, ↓reduceIte, and_true, true_and, and_false, false_and, not_true_eq_false, not_false_eq_true, and_self, qR, qI, PN h.1, bnd, g1, PN g3.1, g5.1, bc_c N hb, hz', nI_1]
    · refine ⟨τ1, ?_, g2, g3⟩
      have hz' : ¬ nI (bc (bitsY (sQ S) (sq S) (yrN (sQ S) (sq S) rain (sR S) k) rain)) ≤ (1 : Int32) := by rw [y1]; exact nI_ge (by omega) (by omega)
      rw [tgN, if_neg hz]
      simp (disch := omega) only [fc12_together_34, y60, nI_ltI, c, if_true, if_false, ↓reduceIte, and_true, true_and, and_false, false_and, not_true_eq_false, not_false_eq_true, and_self, qR, qI, PN h.1, bnd, g1, PN g3.1, g5.1, bc_c N hb, hz']
      rfl
theorem together_m (h : Qm N σ S) {rain : Nat} (hr : rain ≤ 99) : Am S σ (oI (tgN (sQ S) (sq S) rain (sR S) 60 0)) (fc12_together N 60 (nI rain) σ) := by
  have hq := h.th
  have hN := h.2.2.2.2.2
  obtain ⟨σ1, c1, c2, -, c3, c4⟩ := hq.copy
  obtain ⟨σ', z1, z2, z3⟩ := together34_m (N := N) hr 60 0 N σ1 (by omega) (by omega) c3 c4
  refine Am.of ?_ (c2.tr z2) z3
  rw [← z1, fc12_together, th0 h.1, bnd]
  simp (disch := omega) only [qI, PN hq.1, bnd, hq.n24, hq.n0, mrain_y hr, one0, if_true, if_false, ↓reduceIte, and_true, true_and, and_false, false_and, not_true_eq_false, not_false_eq_true, and_self, qR, c1]
  rfl
theorem together_mn (h : Sh σ) (hr : RM σ S) (hw : WS S) {x : Int32} (hx : ¬ ∃ j : Nat, pn (sQ S) ≠ 0 ∧ j ≤ 99 ∧ x = nI j) : fc12_together N 60 x σ = some (-1, setI σ 60 0 0) := by
  have ht : Sh (setI σ 60 0 0) := h
  rw [fc12_together, th0 h, bnd]
  rcases sky_mn (N := N) hr hw hx with e | ⟨e1, e2, e3⟩
  · simp (disch := omega) only [qI, PN ht, bnd, e, nI_0, if_true, if_false, ↓reduceIte, and_true, true_and, and_false, false_and, not_true_eq_false, not_false_eq_true, and_self]
  · simp (disch := omega) only [qI, PN ht, bnd, e1, e2, e3, if_true, if_false, ↓reduceIte, and_true, true_and, and_false, false_and, not_true_eq_false, not_false_eq_true, and_self]
end MK
