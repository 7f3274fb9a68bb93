/-! questions to the class: the best sale, trades -/
section QS
variable {N : Nat} {σ : Me} {P : Pl} {r : Rw} {q : PF} {b : Nat}
theorem ldS25_g {b a j : Nat} (h : gX b a j = false) : ldS 25 a j = false := ld25_g h
theorem behind_c (h : Qc N σ P r q b) {i j m rain : Nat} (hi : i < pn P) (hj : j < pn P) (hij : i ≠ j) (hm : m ≤ 20) (hs : saleB r i j m = true) (hr : rain ≤ 99) :
    ∃ σ' : Me, fc11_lookBehindSale N 0 (nI i) (nI j) (nI m) (nI rain) σ = some ((), σ') ∧ Fr (gX b) σ σ' ∧ LkC σ' P q (rSell r i j m) rain ∧ LdC σ' 25 P (rSell r i j m) := by
  obtain ⟨σ1, c1, c2, c3⟩ := copy25_g h
  have h1 := h.fr c2.gc
  have b6 := h.2.2.1.1
  have hB := h.2.2.2.1
  obtain ⟨σ2, d1, d2, d3⟩ := handOver_c (N := N) h1.1 (.inr rfl) c3 b6 hB hi hj hij hm hs
  have d2g : Fr (gX b) σ1 σ2 := d2.mono (fun a j e => ld25_g e)
  have h2 := h1.fr d2g.gc
  obtain ⟨σ3, e1, e2, e3, e4⟩ := look25_g h2 d3 (hB.sell hs) hr
  refine ⟨σ3, ?_, (c2.tr d2g).tr e2, e3, e4⟩
  simp (disch := omega) only [fc11_lookBehindSale, qR, PK h.1, bnd, c1, PK h1.1, d1, PK h2.1, e1]
/-! the best sale: what was best so far, and a code more -/
abbrev Bz : Type := Option (Nat × Nat)
def bsU (z : Bz) (c v : Nat) : Bz := match z with
  | none => some (c, v)
  | some p => if v ≤ p.2 then some p else some (c, v)
def bsOk (P : Pl) (r : Rw) (c : Nat) : Bool := decide (c % 10 ≠ 0) && decide (c / 100 < pn P) && decide (c / 10 % 10 < pn P) && decide (c / 100 ≠ c / 10 % 10) && saleB r (c / 100) (c / 10 % 10) (c % 10)
def bsV (P : Pl) (q : PF) (r : Rw) (rain c : Nat) : Nat := borY P q (rSell r (c / 100) (c / 10 % 10) (c % 10)) rain
def bsS (P : Pl) (q : PF) (r : Rw) (rain : Nat) (z : Bz) (c : Nat) : Bz := if bsOk P r c = true then bsU z c (bsV P q r rain c) else z
def bsN (P : Pl) (q : PF) (r : Rw) (rain : Nat) : Nat → Nat → Bz → Bz
  | 0, _, z => z
  | k + 1, c, z => bsN P q r rain k (c + 1) (bsS P q r rain z c)
theorem bsN_add (rain : Nat) : ∀ (k1 k2 c : Nat) (z : Bz), bsN P q r rain (k1 + k2) c z = bsN P q r rain k2 (c + k1) (bsN P q r rain k1 c z)
  | 0, k2, c, z => by rw [Nat.zero_add, Nat.add_zero]; rfl
  | k1 + 1, k2, c, z => by
    rw [show k1 + 1 + k2 = k1 + k2 + 1 by omega]
    show bsN P q r rain (k1 + k2) (c + 1) _ = _
    rw [bsN_add rain k1 k2 (c + 1), show c + 1 + k1 = c + (k1 + 1) by omega]
    rfl
theorem bsN_no (rain : Nat) : ∀ (k c : Nat) (z : Bz), (∀ c', c ≤ c' → c' < c + k → bsOk P r c' = false) → bsN P q r rain k c z = z
  | 0, _, _, _ => rfl
  | k + 1, c, z, h => by
    have h1 := h c (Nat.le_refl _) (by omega)
    show bsN P q r rain k (c + 1) (bsS P q r rain z c) = z
    rw [bsN_no rain k (c + 1) _ (fun c' h2 h3 => h c' (by omega) (by omega)), bsS, h1]
    rfl
theorem bsOk_m (rain : Nat) {c : Nat} (h : c % 10 = 0) : bsOk P r c = false := by simp [bsOk, h]
theorem bsOk_b {c : Nat} (h : pn P ≤ c / 10 % 10) : bsOk P r c = false := by
  have : ¬ c / 10 % 10 < pn P := by omega
  simp [bsOk, this]
/-- how the class holds it -/
def zc (z : Bz) : Int32 := oI (z.map Prod.fst)
def zv (z : Bz) : Int32 := oI (z.map Prod.snd)
theorem borY_le (hB : PlB P) (r : Rw) (rain : Nat) : borY P q r rain ≤ 1620 := by
  have h := bor_le (P := P) (r := r) (F := falY P q r rain) hB.2.2.2.2 (pn P) (Nat.le_refl _)
  have b6 := hB.1
  unfold borY
  omega
def zOK (z : Bz) : Prop := ∀ p, z = some p → p.2 ≤ 2000
theorem bsU_ok {z : Bz} {c v : Nat} (h : zOK z) (hv : v ≤ 2000) : zOK (bsU z c v) := by
  intro p e
  cases z with
  | none => cases e; exact hv
  | some p' =>
    simp only [bsU] at e
    split at e
    · cases e; exact h _ rfl
    · cases e; exact hv
theorem zv_le {z : Bz} {v : Nat} (h : zOK z) (hv : v ≤ 2000) : nI v ≤ zv z ↔ ∃ p, z = some p ∧ v ≤ p.2 := by
  cases z with
  | none =>
    constructor
    · intro e
      have e : nI v ≤ -1 := e
      rw [i_toInt_le, nI_toInt (by omega)] at e
      have : (-1 : Int32).toInt = -1 := rfl
      omega
    · rintro ⟨p, e, -⟩; cases e
  | some p =>
    have hp := h p rfl
    show nI v ≤ nI p.2 ↔ _
    rw [nI_leI (by omega) (by omega)]
    constructor
    · intro e; exact ⟨p, rfl, e⟩
    · rintro ⟨p', e, e2⟩; cases e; exact e2
theorem bsS_ok (hB : PlB P) {rain : Nat} {z : Bz} {c : Nat} (h : zOK z) : zOK (bsS P q r rain z c) := by
  unfold bsS
  split
  · exact bsU_ok h (by have := borY_le (q := q) hB (rSell r (c / 100) (c / 10 % 10) (c % 10)) rain; unfold bsV; omega)
  · exact h
theorem bsN_ok (hB : PlB P) {rain : Nat} : ∀ (k c : Nat) (z : Bz), zOK z → zOK (bsN P q r rain k c z)
  | 0, _, _, h => h
  | k + 1, c, z, h => bsN_ok hB k (c + 1) _ (bsS_ok hB h)
theorem bsN_snoc (rain k c : Nat) (z : Bz) : bsN P q r rain (k + 1) c z = bsS P q r rain (bsN P q r rain k c z) (c + k) := by
  rw [bsN_add rain k 1 c z]; rfl
theorem best57_c (h0 : Qc N σ P r q b) {s c rain : Nat} (hs : s < pn P) (hc : c < pn P) (hr : rain ≤ 99) {w : Int32} (K27 : Option Nat → Int32 → Int32 → Int32 → Int32 → Int32 → Me → Option (Int32 × Me)) (K42 : Option Nat → Int32 → Int32 → Int32 → Int32 → Int32 → Int32 → Me → Option (Int32 × Me)) {z0 : Bz} (hz : zOK z0) {τ0 : Me} (f0 : Fr (cX b) σ τ0) :
    ∃ σ' : Me, fc11_best_57 N K27 K42 N (some 0) (nI rain) w (zc z0) (zv z0) (nI s) (nI c) (nI 1) τ0 = K42 (some 0) (nI rain) w (zc (bsN P q r rain 10 (100 * s + 10 * c) z0)) (zv (bsN P q r rain 10 (100 * s + 10 * c) z0)) (nI s) (nI (c + 1)) σ' ∧ Fr (cX b) σ σ' := by
  have h9 := h0.2.2.2.2.2.2.2.2
  have b6 := h0.2.2.1.1
  have hB := h0.2.2.1
  have hR := h0.2.2.2.1
  refine lp (α := Bz × Me) (fun fu m t => fc11_best_57 N K27 K42 fu (some 0) (nI rain) w (zc t.1) (zv t.1) (nI s) (nI c) (nI m) t.2) (fun m t => t.1 = bsN P q r rain m (100 * s + 10 * c) z0 ∧ 1 ≤ m ∧ Fr (cX b) σ t.2) (fun o => ∃ σ' : Me, o = K42 (some 0) (nI rain) w (zc (bsN P q r rain 10 (100 * s + 10 * c) z0)) (zv (bsN P q r rain 10 (100 * s + 10 * c) z0)) (nI s) (nI (c + 1)) σ' ∧ Fr (cX b) σ σ') 10 ?_ ?_ 9 1 N (z0, τ0) (by omega) (by omega) ⟨by
    show z0 = bsS P q r rain z0 (100 * s + 10 * c)
    rw [bsS, bsOk_m rain (by omega)]; rfl, by omega, f0⟩
  · rintro fu ⟨z, τ⟩ ⟨i1, -, i3⟩
    have i3 : Fr (cX b) σ τ := i3
    have i1 : z = bsN P q r rain 10 (100 * s + 10 * c) z0 := i1
    subst i1
    refine ⟨τ, ?_, i3⟩
    have cc : 9 < 10 := by decide
    simp (disch := omega) only [fc11_best_57, y9, nI_ltI, cc, if_true, if_false, ↓reduceIte, and_true, true_and, and_false, false_and, not_true_eq_false, not_false_eq_true, and_self, nI_1]
  · rintro fu m ⟨z, τ⟩ hm ⟨i1, i2, i3⟩
    have i3 : Fr (cX b) σ τ := i3
    refine .inl ?_
    have i1 : z = bsN P q r rain m (100 * s + 10 * c) z0 := i1
    have hzk : zOK z := by rw [i1]; exact bsN_ok hB _ _ _ hz
    have hτ := h0.fr i3
    have cc : ¬ 9 < m := by omega
    have e1 : (100 * s + 10 * c + m) % 10 = m := by omega
    have e2 : (100 * s + 10 * c + m) / 100 = s := by omega
    have e3 : (100 * s + 10 * c + m) / 10 % 10 = c := by omega
    have hnext : ∀ z', z' = bsS P q r rain z (100 * s + 10 * c + m) → z' = bsN P q r rain (m + 1) (100 * s + 10 * c) z0 := fun z' e => by rw [e, bsN_snoc, i1]
    by_cases hsc : s = c
    · have hno : bsOk P r (100 * s + 10 * c + m) = false := by
        unfold bsOk; rw [e2, e3]; simp [hsc]
      refine ⟨(z, τ), ?_, hnext z (by rw [bsS, hno]; rfl), by omega, i3⟩
      simp (disch := omega) only [fc11_best_57, fc11_best_134, y9, nI_ltI, cc, hsc, if_true, if_false, ↓reduceIte, and_true, true_and, and_false, false_and, not_true_eq_false, not_false_eq_true, and_self, nI_1]
    · have isl := isSale_c (N := N) hτ.1 (.inl rfl) hτ.2.1 b6 hR hs hc (m := m) (by omega)
      by_cases hb : saleB r s c m = true
      · have hyes : bsOk P r (100 * s + 10 * c + m) = true := by
          unfold bsOk; rw [e1, e2, e3]
          simp [hs, hc, hsc, hb]; omega
        have hval : bsV P q r rain (100 * s + 10 * c + m) = borY P q (rSell r s c m) rain := by unfold bsV; rw [e1, e2, e3]
        obtain ⟨τ1, g1, g2, g3, g4⟩ := behind_c hτ hs hc hsc (m := m) (by omega) hb hr
        have hτ1 := hτ.fr g2.gc
        have hle := borY_le (q := q) hB (rSell r s c m) rain
        rw [if_pos hb] at isl
        have c1 : ¬ (1 : Int32) = 0 := by decide
        have ebor := g3.2.2.2.1
        by_cases hu : nI (borY P q (rSell r s c m) rain) ≤ zv z
        · obtain ⟨p, ep, hp⟩ := (zv_le hzk (by omega)).mp hu
          refine ⟨(z, τ1), ?_, hnext z ?_, by omega, i3.tr g2.gc⟩
          · simp (disch := omega) only [fc11_best_57, fc11_best_134, y9, nI_ltI, cc, nI_eq, hsc, if_true, if_false, ↓reduceIte, and_true, true_and, and_false, false_and, not_true_eq_false, not_false_eq_true, and_self, qR, qI, PK hτ.1, bnd, isl, c1, g1, PK hτ1.1, ebor, hu, nI_1]
          · rw [bsS, if_pos hyes, hval, ep]
            show _ = if _ ≤ p.2 then some p else _
            rw [if_pos hp]
        · refine ⟨(some (100 * s + 10 * c + m, borY P q (rSell r s c m) rain), τ1), ?_, hnext _ ?_, by omega, i3.tr g2.gc⟩
          · simp (disch := omega) only [fc11_best_57, fc11_best_134, y9, y100, y10, nI_ltI, cc, nI_eq, hsc, if_true, if_false, ↓reduceIte, and_true, true_and, and_false, false_and, not_true_eq_false, not_false_eq_true, and_self, qR, qI, PK hτ.1, bnd, isl, c1, g1, PK hτ1.1, ebor, hu, nI_1, pk_mul, nI_add]
            rfl
          · rw [bsS, if_pos hyes, hval]
            cases z with
            | none => rfl
            | some p =>
              show _ = if _ ≤ p.2 then some p else _
              rw [if_neg (fun e => hu ((zv_le hzk (by omega)).mpr ⟨p, rfl, e⟩))]
      · have hno : bsOk P r (100 * s + 10 * c + m) = false := by
          unfold bsOk; rw [e1, e2, e3]
          have : saleB r s c m = false := by simpa using hb
          simp [this]
        rw [if_neg hb] at isl
        refine ⟨(z, τ), ?_, hnext z (by rw [bsS, hno]; rfl), by omega, i3⟩
        simp (disch := omega) only [fc11_best_57, fc11_best_134, y9, nI_ltI, cc, nI_eq, hsc, if_true, if_false, ↓reduceIte, and_true, true_and, and_false, false_and, not_true_eq_false, not_false_eq_true, and_self, qR, qI, PK hτ.1, bnd, isl, nI_1]
theorem best42_c (h0 : Qc N σ P r q b) {s rain : Nat} (hs : s < pn P) (hr : rain ≤ 99) {w : Int32} (K27 : Option Nat → Int32 → Int32 → Int32 → Int32 → Int32 → Me → Option (Int32 × Me)) {z0 : Bz} (hz : zOK z0) {τ0 : Me} (f0 : Fr (cX b) σ τ0) :
    ∃ σ' : Me, fc11_best_42 N K27 N (some 0) (nI rain) w (zc z0) (zv z0) (nI s) (nI 0) τ0 = K27 (some 0) (nI rain) w (zc (bsN P q r rain 100 (100 * s) z0)) (zv (bsN P q r rain 100 (100 * s) z0)) (nI (s + 1)) σ' ∧ Fr (cX b) σ σ' := by
  have h9 := h0.2.2.2.2.2.2.2.2
  have b6 := h0.2.2.1.1
  have hB := h0.2.2.1
  refine lp (α := Bz × Me) (fun fu c t => fc11_best_42 N K27 fu (some 0) (nI rain) w (zc t.1) (zv t.1) (nI s) (nI c) t.2) (fun c t => t.1 = bsN P q r rain (10 * c) (100 * s) z0 ∧ Fr (cX b) σ t.2) (fun o => ∃ σ' : Me, o = K27 (some 0) (nI rain) w (zc (bsN P q r rain 100 (100 * s) z0)) (zv (bsN P q r rain 100 (100 * s) z0)) (nI (s + 1)) σ' ∧ Fr (cX b) σ σ') (pn P) ?_ ?_ (pn P) 0 N (z0, τ0) (by omega) (by omega) ⟨rfl, f0⟩
  · rintro fu ⟨z, τ⟩ ⟨i1, i3⟩
    have i3 : Fr (cX b) σ τ := i3
    have i1 : z = bsN P q r rain (10 * pn P) (100 * s) z0 := i1
    have hτ := h0.fr i3
    have e : bsN P q r rain 100 (100 * s) z0 = z := by
      have h1 : bsN P q r rain (10 * pn P + (100 - 10 * pn P)) (100 * s) z0 = z := by
        rw [bsN_add, ← i1]
        exact bsN_no rain _ _ _ (fun c' h1 h2 => bsOk_b (by omega))
      rwa [show 10 * pn P + (100 - 10 * pn P) = 100 by omega] at h1
    rw [e]
    refine ⟨τ, ?_, i3⟩
    have cc : pn P ≤ pn P := Nat.le_refl _
    simp (disch := omega) only [fc11_best_42, qR, qI, PK hτ.1, bnd, hτ.2.1.1, nI_leI, cc, if_true, if_false, ↓reduceIte, and_true, true_and, and_false, false_and, not_true_eq_false, not_false_eq_true, and_self, nI_1]
  · rintro fu c ⟨z, τ⟩ hc ⟨i1, i3⟩
    have i3 : Fr (cX b) σ τ := i3
    refine .inl ?_
    have i1 : z = bsN P q r rain (10 * c) (100 * s) z0 := i1
    have hτ := h0.fr i3
    have hzk : zOK z := by rw [i1]; exact bsN_ok hB _ _ _ hz
    obtain ⟨τ1, g1, g2⟩ := best57_c (w := w) h0 hs hc hr K27 (fc11_best_42 N K27 fu) hzk i3
    refine ⟨(bsN P q r rain 10 (100 * s + 10 * c) z, τ1), ?_, ?_, g2⟩
    · have cc : ¬ pn P ≤ c := by omega
      show fc11_best_42 N K27 (fu + 1) (some 0) (nI rain) w (zc z) (zv z) (nI s) (nI c) τ = _
      simp (disch := omega) only [fc11_best_42, qR, qI, PK hτ.1, bnd, hτ.2.1.1, nI_leI, cc, if_true, if_false, ↓reduceIte, and_true, true_and, and_false, false_and, not_true_eq_false, not_false_eq_true, and_self]
      exact g1
    · show _ = bsN P q r rain (10 * (c + 1)) (100 * s) z0
      rw [show 10 * (c + 1) = 10 * c + 10 by omega, bsN_add, ← i1]
theorem best_c (h : Qc N σ P r q b) {rain w : Nat} (hr : rain ≤ 99) (hw : w ≤ 1) : ∃ σ' : Me, fc11_best N 0 (nI rain) (nI w) σ = some (if w = 0 then zc (bsN P q r rain (100 * pn P) 0 none) else zv (bsN P q r rain (100 * pn P) 0 none), σ') ∧ Fr (cX b) σ σ' := by
  have h9 := h.2.2.2.2.2.2.2.2
  have b6 := h.2.2.1.1
  have b2 := h.2.2.2.2.1
  have hB := h.2.2.1
  have x1 : fc11_best N 0 (nI rain) (nI w) σ = fc11_best_27 N N (some 0) (nI rain) (nI w) (zc none) (zv none) (nI 0) σ := by
    have cc : ¬ (1 : Int32) = 0 := by decide
    have d1 := nI_pos (n := w) (by omega)
    have d2 : nI w ≤ 1 := by rw [y1]; exact nI_le hw (by decide)
    simp (disch := omega) only [fc11_best, PK h.1, bnd, sky_y h.1 h.2.1.1 b6 (show 0 < pn P by omega) hr, cc, d1, d2, if_true, if_false, ↓reduceIte, and_true, true_and, and_false, false_and, not_true_eq_false, not_false_eq_true, and_self]
    rfl
  rw [x1]
  refine lp (α := Bz × Me) (fun fu s t => fc11_best_27 N fu (some 0) (nI rain) (nI w) (zc t.1) (zv t.1) (nI s) t.2) (fun s t => t.1 = bsN P q r rain (100 * s) 0 none ∧ Fr (cX b) σ t.2) (fun o => ∃ σ' : Me, o = some (if w = 0 then zc (bsN P q r rain (100 * pn P) 0 none) else zv (bsN P q r rain (100 * pn P) 0 none), σ') ∧ Fr (cX b) σ σ') (pn P) ?_ ?_ (pn P) 0 N (none, σ) (by omega) (by omega) ⟨rfl, Fr.rf _ _⟩
  · rintro fu ⟨z, τ⟩ ⟨i1, i3⟩
    have i3 : Fr (cX b) σ τ := i3
    have i1 : z = bsN P q r rain (100 * pn P) 0 none := i1
    subst i1
    have i3 : Fr (cX b) σ τ := i3
    have hτ := h.fr i3
    refine ⟨τ, ?_, i3⟩
    have cc : pn P ≤ pn P := Nat.le_refl _
    by_cases hw0 : w = 0
    · subst hw0
      simp (disch := omega) only [fc11_best_27, qR, qI, PK hτ.1, bnd, hτ.2.1.1, nI_leI, cc, nI_0, if_true, if_false, ↓reduceIte, and_true, true_and, and_false, false_and, not_true_eq_false, not_false_eq_true, and_self]
    · have hw1 : ¬ nI w = 0 := nI_ne0 (by omega) (by omega)
      simp (disch := omega) only [fc11_best_27, qR, qI, PK hτ.1, bnd, hτ.2.1.1, nI_leI, cc, hw0, hw1, if_true, if_false, ↓reduceIte, and_true, true_and, and_false, false_and, not_true_eq_false, not_false_eq_true, and_self]
  · rintro fu s ⟨z, τ⟩ hs ⟨i1, i3⟩
    have i3 : Fr (cX b) σ τ := i3
    refine .inl ?_
    have i1 : z = bsN P q r rain (100 * s) 0 none := i1
    have hτ := h.fr i3
    have hzk : zOK z := by rw [i1]; exact bsN_ok hB _ _ _ (fun p e => by cases e)
    obtain ⟨τ1, g1, g2⟩ := best42_c (w := nI w) h hs hr (fc11_best_27 N fu) hzk i3
    refine ⟨(bsN P q r rain 100 (100 * s) z, τ1), ?_, ?_, g2⟩
    · have cc : ¬ pn P ≤ s := by omega
      show fc11_best_27 N (fu + 1) (some 0) (nI rain) (nI w) (zc z) (zv z) (nI s) τ = _
      simp (disch := omega) only [fc11_best_27, qR, qI, PK hτ.1, bnd, hτ.2.1.1, nI_leI, cc, if_true, if_false, ↓reduceIte, and_true, true_and, and_false, false_and, not_true_eq_false, not_false_eq_true, and_self]
      exact g1
    · show _ = bsN P q r rain (100 * (s + 1)) 0 none
      rw [show 100 * (s + 1) = 100 * s + 100 by omega, bsN_add, ← i1, Nat.zero_add]
theorem best_n (h : Sh σ) {n : Nat} (hn : mi σ 19 5 = nI n) (h6 : n ≤ 6) {x y : Int32} (hx : ¬ ∃ j w : Nat, 0 < n ∧ j < 100 ∧ w ≤ 1 ∧ x = nI j ∧ y = nI w) : fc11_best N 0 x y σ = some (-1, σ) := by
  have c : ¬ (1 : Int32) = 0 := by decide
  by_cases h0 : n = 0 ∨ x < 0 ∨ nI 100 ≤ x
  · simp (disch := omega) only [fc11_best, PK h, bnd, sky_n h hn h6 h0, if_true, if_false, ↓reduceIte, and_true, true_and, and_false, false_and, not_true_eq_false, not_false_eq_true, and_self]
  · rcases nix x (n := 100) (by omega) with q1 | ⟨j, hj, rfl⟩
    · exact absurd (.inr q1) h0
    · have hn0 : 0 < n := by
        rcases Nat.eq_zero_or_pos n with q | q
        · exact absurd (.inl q) h0
        · exact q
      by_cases c1 : y < 0
      · simp (disch := omega) only [fc11_best, PK h, bnd, sky_y h hn h6 hn0 (show j ≤ 99 by omega), c, c1, if_true, if_false, ↓reduceIte, and_true, true_and, and_false, false_and, not_true_eq_false, not_false_eq_true, and_self]
      · by_cases c2 : y ≤ 1
        · exfalso
          obtain ⟨w, hw, rfl⟩ := nI_of c1
          rw [y1, nI_leI hw (by decide)] at c2
          exact hx ⟨j, w, hn0, hj, c2, rfl, rfl⟩
        · simp (disch := omega) only [fc11_best, PK h, bnd, sky_y h hn h6 hn0 (show j ≤ 99 by omega), c, c1, c2, if_true, if_false, ↓reduceIte, and_true, true_and, and_false, false_and, not_true_eq_false, not_false_eq_true, and_self]
/-! trades -/
def wantB (P : Pl) (q : PF) (r : Rw) (rain i j : Nat) : Bool := saleB r i j 1 && (decide (rc (yrY P q r rain) i < rc (yrY P q (rSell r i j 1) rain) i) && decide (rc (yrY P q r rain) j < rc (yrY P q (rSell r i j 1) rain) j))
def tdW (P : Pl) (q : PF) (r : Rw) (rain c : Nat) : Bool := decide (c / 10 < pn P) && decide (c % 10 < pn P) && decide (c / 10 ≠ c % 10) && wantB P q r rain (c / 10) (c % 10)
def tdN (P : Pl) (q : PF) (r : Rw) (rain : Nat) (i : Int32) : Nat → Nat → Nat → Int32
  | 0, _, n => if i = -1 then nI n else -1
  | k + 1, c, n => if tdW P q r rain c = true then (if nI n = i then nI c else tdN P q r rain i k (c + 1) (n + 1)) else tdN P q r rain i k (c + 1) n
theorem tdN_no (rain : Nat) (i : Int32) : ∀ (k1 k2 c n : Nat), (∀ c', c ≤ c' → c' < c + k1 → tdW P q r rain c' = false) → tdN P q r rain i (k1 + k2) c n = tdN P q r rain i k2 (c + k1) n
  | 0, k2, c, n, _ => by rw [Nat.zero_add, Nat.add_zero]
  | k1 + 1, k2, c, n, h => by
    rw [show k1 + 1 + k2 = k1 + k2 + 1 by omega, tdN, if_neg (by rw [h c (Nat.le_refl _) (by omega)]; decide), tdN_no rain i k1 k2 (c + 1) n (fun c' h1 h2 => h c' (by omega) (by omega)), show c + 1 + k1 = c + (k1 + 1) by omega]
def CwC (τ : Me) (P : Pl) (r1 : Rw) : Prop := ∀ f, f < pn P → mi τ 59 f = nI (rc r1 f)
theorem want_c (h : Qc N σ P r q b) {i j rain : Nat} (hi : i < pn P) (hj : j < pn P) (hij : i ≠ j) (hr : rain ≤ 99) (hw : CwC σ P (yrY P q r rain)) : ∃ σ' : Me, fc11_bothWant N 0 (nI i) (nI j) (nI rain) σ = some (bI (wantB P q r rain i j), σ') ∧ Fr (gX b) σ σ' := by
  have b6 := h.2.2.1.1
  have hR := h.2.2.2.1
  have ht := h.2.2.2.2.2.1
  have isl := isSale_c (N := N) h.1 (.inl rfl) h.2.1 b6 hR hi hj (m := 1) (by omega)
  rw [← y1] at isl
  by_cases hb : saleB r i j 1 = true
  · rw [if_pos hb] at isl
    obtain ⟨σ1, g1, g2, g3, g4⟩ := behind_c h hi hj hij (m := 1) (by omega) hb hr
    rw [← y1] at g1
    have h1 := h.fr g2.gc
    obtain ⟨σ2, s1, s2, s3⟩ := settle25_g h1 g4 (hR.sell hb) hr g3
    have h2 := h1.fr s2.gc
    have hR2 : RwB (pn P) (yrY P q (rSell r i j 1) rain) := RwB.yr (hR.sell hb) (by have : rt (rSell r i j 1) = rt r := rfl; omega)
    have hR3 : RwB (pn P) (yrY P q r rain) := RwB.yr hR (by omega)
    have c1 : ¬ (1 : Int32) = 0 := by decide
    have e1 := (s3.2.2.2.2.2 i hi).2.2.2.2
    have e2 := (s3.2.2.2.2.2 j hj).2.2.2.2
    have w1 : mi σ2 59 i = nI (rc (yrY P q r rain) i) := by rw [s2.i rfl, g2.i rfl]; exact hw i hi
    have w2 : mi σ2 59 j = nI (rc (yrY P q r rain) j) := by rw [s2.i rfl, g2.i rfl]; exact hw j hj
    have l1 := (hR2.2.2 i hi).2.2.2
    have l2 := (hR2.2.2 j hj).2.2.2
    have l3 := (hR3.2.2 i hi).2.2.2
    have l4 := (hR3.2.2 j hj).2.2.2
    refine ⟨σ2, ?_, g2.tr s2⟩
    have hE : wantB P q r rain i j = (decide (rc (yrY P q r rain) i < rc (yrY P q (rSell r i j 1) rain) i) && decide (rc (yrY P q r rain) j < rc (yrY P q (rSell r i j 1) rain) j)) := by unfold wantB; rw [hb, Bool.true_and]
    rw [hE]
    by_cases d1 : rc (yrY P q (rSell r i j 1) rain) i ≤ rc (yrY P q r rain) i
    · have n1 : ¬ rc (yrY P q r rain) i < rc (yrY P q (rSell r i j 1) rain) i := by omega
      simp (disch := omega) only [fc11_bothWant, qR, PK h.1, bnd, isl, c1, if_true, if_false, ↓reduceIte, and_true, true_and, and_false, false_and, not_true_eq_false, not_false_eq_true, and_self, g1, PK h1.1, s1, PK h2.1, ldI_lo, A30 h2.1, A59 h2.1, nI_clamp, e1, w1, nI_leI, d1, retZ0, n1, decide_false, Bool.false_and]
      rfl
    · have n1 : rc (yrY P q r rain) i < rc (yrY P q (rSell r i j 1) rain) i := by omega
      by_cases d2 : rc (yrY P q (rSell r i j 1) rain) j ≤ rc (yrY P q r rain) j
      · have n2 : ¬ rc (yrY P q r rain) j < rc (yrY P q (rSell r i j 1) rain) j := by omega
        simp (disch := omega) only [fc11_bothWant, qR, PK h.1, bnd, isl, c1, if_true, if_false, ↓reduceIte, and_true, true_and, and_false, false_and, not_true_eq_false, not_false_eq_true, and_self, g1, PK h1.1, s1, PK h2.1, ldI_lo, A30 h2.1, A59 h2.1, nI_clamp, e1, e2, w1, w2, nI_leI, d1, d2, retZ0, n1, n2, decide_false, decide_true, Bool.and_false]
        rfl
      · have n2 : rc (yrY P q r rain) j < rc (yrY P q (rSell r i j 1) rain) j := by omega
        simp (disch := omega) only [fc11_bothWant, qR, PK h.1, bnd, isl, c1, if_true, if_false, ↓reduceIte, and_true, true_and, and_false, false_and, not_true_eq_false, not_false_eq_true, and_self, g1, PK h1.1, s1, PK h2.1, ldI_lo, A30 h2.1, A59 h2.1, nI_clamp, e1, e2, w1, w2, nI_leI, d1, d2, retZ1, n1, n2, decide_true, Bool.and_true]
        rfl
  · rw [if_neg hb] at isl
    refine ⟨σ, ?_, Fr.rf _ _⟩
    have hE : wantB P q r rain i j = false := by
      have : saleB r i j 1 = false := by simpa using hb
      unfold wantB; rw [this]; rfl
    rw [hE]
    simp (disch := omega) only [fc11_bothWant, qR, PK h.1, bnd, isl, if_true, if_false, ↓reduceIte, and_true, true_and, and_false, false_and, not_true_eq_false, not_false_eq_true, and_self, retZ0]
    rfl
theorem CwC.fr {τ τ' : Me} {r1 : Rw} (h : CwC τ P r1) (k : Fr (gX b) τ τ') : CwC τ' P r1 := fun f hf => by rw [k.i rfl]; exact h f hf
theorem trades87_c (h0 : Qc N σ P r q b) {i rain : Nat} (hi : i < pn P) (hr : rain ≤ 99) {x2 : Int32} {B : Nat} (hB : B ≤ 1000) {K : Option Nat → Int32 → Int32 → Int32 → Int32 → Me → Option (Int32 × Me)} {F : Nat → Int32} (hK : ∀ (n : Nat) (τ : Me), n ≤ B → Fr (cX b) σ τ → CwC τ P (yrY P q r rain) → ∃ σ' : Me, K (some 0) (nI rain) x2 (nI n) (nI (i + 1)) τ = some (F n, σ') ∧ Fr (cX b) σ σ') (hF : ∀ n, F n = tdN P q r rain x2 (10 * (pn P - i) - pn P) (10 * i + pn P) n) :
    ∀ (c j n fu : Nat) (τ : Me), j + c = pn P → n + c ≤ B → c < fu → Fr (cX b) σ τ → CwC τ P (yrY P q r rain) → ∃ σ' : Me, fc11_trades_87 N K fu (some 0) (nI rain) x2 (nI n) (nI i) (nI j) τ = some (tdN P q r rain x2 (10 * (pn P - i) - j) (10 * i + j) n, σ') ∧ Fr (cX b) σ σ'
  | _, _, _, 0, _, _, _, h0, _, _ => absurd h0 (Nat.not_lt_zero _)
  | 0, j, n, fu + 1, τ, hj, hn, _, i1, i2 => by
    have hτ := h0.fr i1
    have b6 := h0.2.2.1.1
    have e : j = pn P := by omega
    subst e
    obtain ⟨σ', z1, z2⟩ := hK n τ (by omega) i1 i2
    refine ⟨σ', ?_, z2⟩
    rw [← hF n, ← z1]
    have cc : pn P ≤ pn P := Nat.le_refl _
    simp (disch := omega) only [fc11_trades_87, qR, qI, PK hτ.1, bnd, hτ.2.1.1, nI_leI, cc, if_true, if_false, ↓reduceIte, and_true, true_and, and_false, false_and, not_true_eq_false, not_false_eq_true, and_self, nI_1]
  | c + 1, j, n, fu + 1, τ, hj, hn, hfu, i1, i2 => by
    have hτ := h0.fr i1
    have b6 := h0.2.2.1.1
    have cc : ¬ pn P ≤ j := by omega
    have e1 : (10 * i + j) / 10 = i := by omega
    have e2 : (10 * i + j) % 10 = j := by omega
    have e3 : 10 * (pn P - i) - j = 10 * (pn P - i) - (j + 1) + 1 := by omega
    rw [e3, tdN]
    by_cases hij : i = j
    · have hno : tdW P q r rain (10 * i + j) = false := by
        unfold tdW; rw [e1, e2]; simp [hij]
      obtain ⟨σ', z1, z2⟩ := trades87_c h0 hi hr hB hK hF c (j + 1) n fu τ (by omega) (by omega) (by omega) i1 i2
      refine ⟨σ', ?_, z2⟩
      rw [if_neg (by rw [hno]; decide), show 10 * i + j + 1 = 10 * i + (j + 1) by omega, ← z1]
      simp (disch := omega) only [fc11_trades_87, fc11_trades_135, qR, qI, PK hτ.1, bnd, hτ.2.1.1, nI_leI, cc, hij, if_true, if_false, ↓reduceIte, and_true, true_and, and_false, false_and, not_true_eq_false, not_false_eq_true, and_self, nI_1]
    · obtain ⟨τ1, w1, w2⟩ := want_c hτ hi (show j < pn P by omega) hij hr i2
      have i1' := i1.tr w2.gc
      have i2' := i2.fr w2
      have c1 : ¬ (1 : Int32) = 0 := by decide
      by_cases hw : wantB P q r rain i j = true
      · rw [hw, bI_t] at w1
        have hyes : tdW P q r rain (10 * i + j) = true := by
          unfold tdW; rw [e1, e2]; simp [hi, hij, hw]; omega
        rw [if_pos hyes]
        by_cases hx : nI n = x2
        · refine ⟨τ1, ?_, i1'⟩
          rw [if_pos hx]
          simp (disch := omega) only [fc11_trades_87, fc11_trades_135, qR, qI, PK hτ.1, bnd, hτ.2.1.1, nI_leI, cc, nI_eq, hij, if_true, if_false, ↓reduceIte, and_true, true_and, and_false, false_and, not_true_eq_false, not_false_eq_true, and_self, w1, c1, hx, y10, pk_mul, nI_add]
        · obtain ⟨σ', z1, z2⟩ := trades87_c h0 hi hr hB hK hF c (j + 1) (n + 1) fu τ1 (by omega) (by omega) (by omega) i1' i2'
          refine ⟨σ', ?_, z2⟩
          rw [if_neg hx, show 10 * i + j + 1 = 10 * i + (j + 1) by omega, ← z1]
          simp (disch := omega) only [fc11_trades_87, fc11_trades_135, qR, qI, PK hτ.1, bnd, hτ.2.1.1, nI_leI, cc, nI_eq, hij, if_true, if_false, ↓reduceIte, and_true, true_and, and_false, false_and, not_true_eq_false, not_false_eq_true, and_self, w1, c1, hx, nI_1]
      · have hw' : wantB P q r rain i j = false := by simpa using hw
        rw [hw', bI_f] at w1
        have hno : tdW P q r rain (10 * i + j) = false := by
          unfold tdW; rw [e1, e2, hw']; simp
        obtain ⟨σ', z1, z2⟩ := trades87_c h0 hi hr hB hK hF c (j + 1) n fu τ1 (by omega) (by omega) (by omega) i1' i2'
        refine ⟨σ', ?_, z2⟩
        rw [if_neg (by rw [hno]; decide), show 10 * i + j + 1 = 10 * i + (j + 1) by omega, ← z1]
        simp (disch := omega) only [fc11_trades_87, fc11_trades_135, qR, qI, PK hτ.1, bnd, hτ.2.1.1, nI_leI, cc, nI_eq, hij, if_true, if_false, ↓reduceIte, and_true, true_and, and_false, false_and, not_true_eq_false, not_false_eq_true, and_self, w1, nI_1]
theorem trades72_c (h0 : Qc N σ P r q b) {rain : Nat} (hr : rain ≤ 99) {x2 : Int32} : ∀ (a i n fu : Nat) (τ : Me), i + a = pn P → n + 6 * a ≤ 36 → a < fu → Fr (cX b) σ τ → CwC τ P (yrY P q r rain) → ∃ σ' : Me, fc11_trades_72 N fu (some 0) (nI rain) x2 (nI n) (nI i) τ = some (tdN P q r rain x2 (10 * a) (10 * i) n, σ') ∧ Fr (cX b) σ σ'
  | _, _, _, 0, _, _, _, h0, _, _ => absurd h0 (Nat.not_lt_zero _)
  | 0, i, n, fu + 1, τ, hi, hn, _, i1, i2 => by
    have hτ := h0.fr i1
    have b6 := h0.2.2.1.1
    refine ⟨τ, ?_, i1⟩
    have cc : pn P ≤ i := by omega
    rw [Nat.mul_zero, tdN]
    by_cases hx : x2 = -1
    · rw [if_pos hx]
      simp (disch := omega) only [fc11_trades_72, qR, qI, PK hτ.1, bnd, hτ.2.1.1, nI_leI, cc, hx, if_true, if_false, ↓reduceIte, and_true, true_and, and_false, false_and, not_true_eq_false, not_false_eq_true, and_self]
    · rw [if_neg hx]
      simp (disch := omega) only [fc11_trades_72, qR, qI, PK hτ.1, bnd, hτ.2.1.1, nI_leI, cc, hx, if_true, if_false, ↓reduceIte, and_true, true_and, and_false, false_and, not_true_eq_false, not_false_eq_true, and_self]
  | a + 1, i, n, fu + 1, τ, hi, hn, hfu, i1, i2 => by
    have hτ := h0.fr i1
    have b6 := h0.2.2.1.1
    have h9 := h0.2.2.2.2.2.2.2.2
    have cc : ¬ pn P ≤ i := by omega
    obtain ⟨σ', z1, z2⟩ := trades87_c (B := 36 - 6 * a) h0 (show i < pn P by omega) hr (x2 := x2) (by omega) (K := fc11_trades_72 N fu) (F := fun n => tdN P q r rain x2 (10 * a) (10 * (i + 1)) n) (fun n τ' hn h1 h2 => trades72_c h0 hr a (i + 1) n fu τ' (by omega) (by omega) (by omega) h1 h2)
      (fun n => by
        show tdN P q r rain x2 (10 * a) (10 * (i + 1)) n = _
        rw [show 10 * (pn P - i) - pn P = 10 - pn P + 10 * a by omega, tdN_no rain x2 (10 - pn P) (10 * a) (10 * i + pn P) n (fun c' h1 h2 => by
          have : ¬ c' % 10 < pn P := by omega
          unfold tdW; simp [this]), show 10 * i + pn P + (10 - pn P) = 10 * (i + 1) by omega])
      (pn P) 0 n N τ (by omega) (by omega) (by omega) i1 i2
    refine ⟨σ', ?_, z2⟩
    rw [show 10 * (a + 1) = 10 * (pn P - i) - 0 by omega, ← Nat.add_zero (10 * i), ← z1]
    simp (disch := omega) only [fc11_trades_72, qR, qI, PK hτ.1, bnd, hτ.2.1.1, nI_leI, cc, if_true, if_false, ↓reduceIte, and_true, true_and, and_false, false_and, not_true_eq_false, not_false_eq_true, and_self, y0]
theorem trades_c (h : Qc N σ P r q b) {rain : Nat} (hr : rain ≤ 99) {x2 : Int32} (hx : (-1 : Int32) ≤ x2) : ∃ σ' : Me, fc11_trades N 0 (nI rain) x2 σ = some (tdN P q r rain x2 (10 * pn P) 0 0, σ') ∧ Fr (cX b) σ σ' := by
  have b6 := h.2.2.1.1
  have b2 := h.2.2.2.2.1
  have h9 := h.2.2.2.2.2.2.2.2
  obtain ⟨σ1, c1, c2, c3⟩ := copy25 h
  have h1 := h.fr c2
  obtain ⟨σ2, σ3, e1, e2, e3, e4, e5, e6⟩ := year25 h1 c3 h.2.2.2.1 hr
  have h2 := h1.fr e3
  have h3 := h2.fr e4
  have g := cp_ok (σ := σ3) (sp := 0) (dp := 0) (n := 6) (K30 h3.1) (K59 h3.1) (by decide) (by decide) (by decide) (by decide)
  have f4 : Fr (cX b) σ (cpRow σ3 59 (mi σ3 30) 0 0 6) := fr_cp (fun j _ _ => rfl) ((c2.tr e3).tr e4)
  have hcw : CwC (cpRow σ3 59 (mi σ3 30) 0 0 6) P (yrY P q r rain) := fun f hf => by
    rw [mi_cpi (by omega), Nat.zero_add, Nat.sub_zero]
    exact (e6.2.2.2.2.2 f hf).2.2.2.2
  obtain ⟨σ', z1, z2⟩ := trades72_c h hr (x2 := x2) (pn P) 0 0 N _ (by omega) (by omega) (by omega) f4 hcw
  refine ⟨σ', ?_, z2⟩
  rw [Nat.mul_zero] at z1
  rw [← z1]
  have cc : ¬ (1 : Int32) = 0 := by decide
  rw [← y0, ← y6] at g
  simp (disch := omega) only [fc11_trades, PK h.1, bnd, sky_y h.1 h.2.1.1 b6 (show 0 < pn P by omega) hr, cc, hx, if_true, if_false, ↓reduceIte, and_true, true_and, and_false, false_and, not_true_eq_false, not_false_eq_true, and_self, qR, c1, PK h1.1, e1, PK h2.1, e2, PK h3.1, g]
  rfl
theorem trades_n (h : Sh σ) {n : Nat} (hn : mi σ 19 5 = nI n) (h6 : n ≤ 6) {x y : Int32} (hx : ¬ ∃ j : Nat, 0 < n ∧ j < 100 ∧ x = nI j ∧ (-1 : Int32) ≤ y) : fc11_trades N 0 x y σ = some (-1, σ) := by
  have c : ¬ (1 : Int32) = 0 := by decide
  by_cases h0 : n = 0 ∨ x < 0 ∨ nI 100 ≤ x
  · simp (disch := omega) only [fc11_trades, PK h, bnd, sky_n h hn h6 h0, if_true, if_false, ↓reduceIte, and_true, true_and, and_false, false_and, not_true_eq_false, not_false_eq_true, and_self]
  · rcases nix x (n := 100) (by omega) with q1 | ⟨j, hj, rfl⟩
    · exact absurd (.inr q1) h0
    · have hn0 : 0 < n := by
        rcases Nat.eq_zero_or_pos n with q | q
        · exact absurd (.inl q) h0
        · exact q
      by_cases c1 : (-1 : Int32) ≤ y
      · exact absurd ⟨j, hn0, hj, rfl, c1⟩ hx
      · simp (disch := omega) only [fc11_trades, PK h, bnd, sky_y h hn h6 hn0 (show j ≤ 99 by omega), c, c1, if_true, if_false, ↓reduceIte, and_true, true_and, and_false, false_and, not_true_eq_false, not_false_eq_true, and_self]
end QS
