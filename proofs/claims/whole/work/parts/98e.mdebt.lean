/-! debts that fit what fell, in the reference -/
section MF
variable {N : Nat} {σ : Me} {S : Sy}
theorem Qm.fc (h : Qm N σ S) : FcM σ (sF S) := h.2.1.2.2.2.2.2
theorem Qm.fk (h : Qm N σ S) : (sF S).length ≤ 10 ∧ ∀ (k : Nat) (fa : Fa), (sF S)[k]? = some fa → faOK (pn (sQ S)) fa := ⟨h.2.2.1.2.2.2.2.2.2.2.2.1, h.2.2.1.2.2.2.2.2.2.2.2.2⟩
theorem fallsIf_m (h : Qm N σ S) {f x rain : Nat} (hf : f < pn (sQ S)) (hx : x ≤ 999) (hr : rain ≤ 99) : ∃ σ' : Me, fc12_fallsIf N 60 (nI f) (nI x) (nI rain) σ = some (nI (falY (sQ S) (sq S) (rOwe (sR S) f x) rain f), σ') ∧ Fr (yS 72) σ σ' ∧ Fr mX σ σ' ∧ Qm N σ' S := by
  obtain ⟨a1, a2, a3, a4, -⟩ := h.2.2.1.hs.yes h.2.2.2.1
  have b6 := a2.1
  obtain ⟨σ1, c1, c2, c2', c3, c4⟩ := h.copy
  obtain ⟨σ3, g1, g2, g3, g4, g5, g6, g7⟩ := c3.alter c4 (set72_fr (σ := σ1) (f := f) (x := nI x) (by omega)) (set72 c4.1 b6 hf) (a3.owe hx) hr
  refine ⟨σ3, ?_, (c2'.mono (fun a j e => f72_y e)).tr g2, c2.tr g3, g5⟩
  have ef := (g7.2.2 f hf).1
  simp (disch := omega) only [fc12_fallsIf, qR, PN h.1, bnd, c1, PN c3.1, i4, ip0, stI, A72 c3.1, nI_clamp, PN g4.1, g1, PN g5.1, ldI_lo, A75 g5.1, ef]
theorem bI_eq (a b : Bool) : bI a = bI b ↔ a = b := by cases a <;> cases b <;> decide
theorem couldBe2_m {f x : Nat} (hf : f < pn (sQ S)) (hx : x ≤ 999) : ∀ (m k fu : Nat) (τ : Me), k + m = (sF S).length → m < fu → Qm N τ S →
    ∃ σ' : Me, fc12_couldBe_2 N fu (some 60) (nI f) (nI x) (nI k) τ = some (bI (((sF S).drop k).all fun fa => ftB (sQ S) (sq S) (sR S) f fa x), σ') ∧ Fr (yS 72) τ σ' ∧ Fr mX τ σ' ∧ Qm N σ' S := by
  intro m
  induction m with
  | zero =>
    intro k fu τ hk hfu h
    obtain ⟨fu, rfl⟩ : ∃ g, fu = g + 1 := ⟨fu - 1, by omega⟩
    obtain ⟨h10, hok⟩ := h.fk
    refine ⟨τ, ?_, Fr.rf _ _, Fr.rf _ _, h⟩
    have q45 : qI τ 12 45 (some 60) = some (nI (sF S).length) := by simp only [qI, PN h.1, bnd, h.fc.1]
    rw [fc12_couldBe_2, q45, bnd, if_pos (nI_le (by omega) (by omega)), List.drop_eq_nil_of_le (by omega)]
    rfl
  | succ m ih =>
    intro k fu τ hk hfu h
    obtain ⟨fu, rfl⟩ : ∃ g, fu = g + 1 := ⟨fu - 1, by omega⟩
    obtain ⟨h10, hok⟩ := h.fk
    have b6 := h.2.2.1.n6
    have hk1 : k < (sF S).length := by omega
    have hfa := hok k _ (List.getElem?_eq_getElem hk1)
    obtain ⟨e0, e1, e2, e3⟩ := h.fc.2 k _ (List.getElem?_eq_getElem hk1)
    rw [List.drop_eq_getElem_cons hk1, List.all_cons]
    have hfc : ∀ τ' : Me, Qm N τ' S → _ := fun τ' h' => h'.fc.2 k _ (List.getElem?_eq_getElem hk1)
    generalize (sF S)[k] = fa at *
    obtain ⟨o1, o2, o3⟩ := hfa
    have q45 : qI τ 12 45 (some 60) = some (nI (sF S).length) := by simp only [qI, PN h.1, bnd, h.fc.1]
    have r42 : qR τ 12 42 (some 60) = some (some 79) := by simp only [qR, PN h.1, bnd]
    have d60 : dr τ (some 60) (.inl 12) = some 60 := by simp only [PN h.1]
    have i4k := i4 (i := k) (by omega)
    have l0 : ldI τ (some 79) (nI (4 * k)) = some (nI fa.1) := by simp (disch := omega) only [ldI_lo, A79 h.1, bnd, nI_clamp, e0]
    have l1 : ldI τ (some 79) (nI (4 * k) + (1 : Int32)) = some (nI fa.2.1) := by simp (disch := omega) only [nI_1, ldI_lo, A79 h.1, bnd, nI_clamp, e1]
    rw [fc12_couldBe_2, q45, bnd, if_neg (nI_ge (by omega) (by omega)), r42, bnd, i4k, l0, bnd]
    by_cases ef : fa.1 = f
    · rw [if_pos (by rw [ef])]
      obtain ⟨τ1, g1, g2, g3, g4⟩ := fallsIf_m h hf hx o2
      obtain ⟨e0', e1', e2', e3'⟩ := hfc τ1 g4
      have r42' : qR τ1 12 42 (some 60) = some (some 79) := by simp only [qR, PN g4.1, bnd]
      have l2 : ldI τ1 (some 79) (nI (4 * k) + (2 : Int32)) = some (nI fa.2.2.1) := by simp (disch := omega) only [ip2, ldI_lo, A79 g4.1, bnd, nI_clamp, e2']
      have l3 : ldI τ1 (some 79) (nI (4 * k) + (3 : Int32)) = some (nI (if fa.2.2.2 = true then 1 else 0)) := by simp (disch := omega) only [ip3, ldI_lo, A79 g4.1, bnd, nI_clamp, e3']
      have hfb := falY_le (sQ S) (sq S) (rOwe (sR S) f x) fa.2.1 f
      have ft : ftB (sQ S) (sq S) (sR S) f fa x = (decide (fa.2.2.1 ≤ falY (sQ S) (sq S) (rOwe (sR S) f x) fa.2.1 f) == fa.2.2.2) := by unfold ftB; rw [if_pos ef]
      have cb : ∀ b0 : Bool, fc12_couldBe_56 N (fc12_couldBe_2 N fu) (some 60) (nI f) (nI x) (nI k) (bI b0) τ1 = if b0 = fa.2.2.2 then fc12_couldBe_2 N fu (some 60) (nI f) (nI x) (nI (k + 1)) τ1 else some (0, τ1) := fun b0 => by
        rw [fc12_couldBe_56, r42', bnd, i4k, l3, bnd]
        cases fa.2.2.2 with
        | true =>
          rw [if_pos rfl, if_pos (show nI 1 = (1 : Int32) from rfl)]
          simp only [fc12_couldBe_75, fc12_couldBe_80, nI_1]
          by_cases e : b0 = true
          · rw [if_pos e, if_pos (by rw [e]; rfl)]
          · rw [if_neg e, if_neg (show ¬ bI b0 = (1 : Int32) from fun q => e ((bI_eq b0 true).mp q))]; rfl
        | false =>
          rw [if_neg (show ¬ (nI (if false = true then 1 else 0)) = (1 : Int32) by decide)]
          simp only [fc12_couldBe_75, fc12_couldBe_80, nI_1]
          by_cases e : b0 = false
          · rw [if_pos e, if_pos (by rw [e]; rfl)]
          · rw [if_neg e, if_neg (show ¬ bI b0 = (0 : Int32) from fun q => e ((bI_eq b0 false).mp q))]; rfl
      simp only [bnd, l1, d60, g1, r42', l2]
      have x0 : (if nI (falY (sQ S) (sq S) (rOwe (sR S) f x) fa.2.1 f) < nI fa.2.2.1 then fc12_couldBe_56 N (fc12_couldBe_2 N fu) (some 60) (nI f) (nI x) (nI k) 0 τ1 else fc12_couldBe_56 N (fc12_couldBe_2 N fu) (some 60) (nI f) (nI x) (nI k) 1 τ1) = fc12_couldBe_56 N (fc12_couldBe_2 N fu) (some 60) (nI f) (nI x) (nI k) (bI (decide (fa.2.2.1 ≤ falY (sQ S) (sq S) (rOwe (sR S) f x) fa.2.1 f))) τ1 := by
        by_cases e : fa.2.2.1 ≤ falY (sQ S) (sq S) (rOwe (sR S) f x) fa.2.1 f
        · rw [if_neg (by rw [nI_ltI (by omega) (by omega)]; omega), decide_eq_true e]; rfl
        · rw [if_pos (by rw [nI_ltI (by omega) (by omega)]; omega), decide_eq_false e]; rfl
      rw [x0, cb, ft]
      by_cases e : decide (fa.2.2.1 ≤ falY (sQ S) (sq S) (rOwe (sR S) f x) fa.2.1 f) = fa.2.2.2
      · rw [if_pos e, beq_iff_eq.mpr e, Bool.true_and]
        obtain ⟨σ', z1, z2, z3, z4⟩ := ih (k + 1) fu τ1 (by omega) (by omega) g4
        exact ⟨σ', z1, g2.tr z2, g3.tr z3, z4⟩
      · rw [if_neg e, beq_eq_false_iff_ne.mpr e, Bool.false_and]
        exact ⟨τ1, rfl, g2, g3, g4⟩
    · have ft : ftB (sQ S) (sq S) (sR S) f fa x = true := by unfold ftB; rw [if_neg ef]
      rw [if_neg (fun q => ef (nI_inj q (by omega) (by omega))), ft, Bool.true_and]
      obtain ⟨σ', z1, z2, z3, z4⟩ := ih (k + 1) fu τ (by omega) (by omega) h
      refine ⟨σ', ?_, z2, z3, z4⟩
      rw [← z1]; simp only [fc12_couldBe_80, nI_1]
theorem couldBe_m (h : Qm N σ S) {f x : Nat} (hf : f < pn (sQ S)) (hx : x ≤ 999) : ∃ σ' : Me, fc12_couldBe N 60 (nI f) (nI x) σ = some (bI (fits (sQ S) (sq S) (sR S) f (sF S) x), σ') ∧ Fr (yS 72) σ σ' ∧ Fr mX σ σ' ∧ Qm N σ' S := by
  have hN := h.2.2.2.2.2
  have h10 := h.fk.1
  exact couldBe2_m (N := N) hf hx (sF S).length 0 N σ (by omega) (by omega) h
/-! debts listed -/
def dbG (p : Nat → Bool) (i : Int32) : Nat → Nat → Nat → Int32
  | 0, _, n => if i = -1 then nI n else -1
  | m + 1, x, n => if p x = true then (if nI n = i then nI x else dbG p i m (x + 1) (n + 1)) else dbG p i m (x + 1) n
theorem dbG_all (p : Nat → Bool) : ∀ (m x n : Nat), n + m ≤ 1000 → dbG p (-1) m x n = nI (n + (dbF p m x).length) := by
  intro m
  induction m with
  | zero => intro x n _; rw [dbG, if_pos rfl, dbF]; rfl
  | succ m ih =>
    intro x n hn
    rw [dbG, dbF]
    by_cases c : p x = true
    · have e : ¬ nI n = -1 := fun e => by
        have := nI_pos (n := n) (by omega)
        rw [e] at this
        exact this (by decide)
      rw [if_pos c, if_neg e, if_pos c, ih _ _ (by omega), List.length_cons]
      congr 1
      omega
    · rw [if_neg c, if_neg c, ih _ _ (by omega)]
theorem dbG_at (p : Nat → Bool) {k : Nat} (hk : k < 2 ^ 31) : ∀ (m x n : Nat), n + m ≤ 1000 → n ≤ k → dbG p (nI k) m x n = if (dbF p m x).length ≤ k - n then -1 else nI ((dbF p m x).getD (k - n) 0) := by
  have e1 : ¬ nI k = -1 := fun e => by
    have := nI_pos (n := k) hk
    rw [e] at this
    exact this (by decide)
  intro m
  induction m with
  | zero => intro x n _ _; rw [dbG, if_neg e1, dbF, List.length_nil, if_pos (Nat.zero_le _)]
  | succ m ih =>
    intro x n hn hnk
    rw [dbG, dbF]
    by_cases c : p x = true
    · rw [if_pos c, if_pos c]
      by_cases e : n = k
      · subst e
        rw [if_pos rfl, Nat.sub_self, if_neg (by rw [List.length_cons]; omega)]
        rfl
      · rw [if_neg (fun q => e (nI_inj q (by omega) hk)), ih _ _ (by omega) (by omega), List.length_cons]
        obtain ⟨d, hd⟩ : ∃ d, k - n = d + 1 := ⟨k - n - 1, by omega⟩
        have hd2 : k - (n + 1) = d := by omega
        rw [hd, hd2]
        by_cases q : (dbF p m (x + 1)).length ≤ d
        · rw [if_pos q, if_pos (by omega)]
        · rw [if_neg q, if_neg (by omega)]; rfl
    · rw [if_neg c, if_neg c, ih _ _ (by omega) hnk]
theorem dbG_A (p : Nat → Bool) {i : Int32} (hi : (-1 : Int32) ≤ i) : dbG p i 100 0 0 = dbA (dbF p 100 0) i := by
  have hl := (dbF_le p 100 0).1
  unfold dbA
  by_cases e : i = -1
  · subst e; rw [if_pos rfl, dbG_all p _ _ _ (by omega), Nat.zero_add]
  · rw [if_neg e]
    have e3 : ¬ i < 0 := by
      intro q
      rw [i_toInt_lt] at q
      rw [i_toInt_le] at hi
      have a1 : (0 : Int32).toInt = 0 := rfl
      have a2 : (-1 : Int32).toInt = -1 := rfl
      apply e
      apply Int32.toInt_inj.1
      omega
    obtain ⟨k, hk, rfl⟩ := nI_of e3
    rw [dbG_at p hk _ _ _ (by omega) (by omega), Nat.sub_zero, nI_clamp hk]
    by_cases c : (dbF p 100 0).length ≤ k
    · rw [if_pos c, if_pos (nI_le c hk)]
    · rw [if_neg c, if_neg (nI_ge (by omega) (by omega))]
theorem debts25_m {f : Nat} (hf : f < pn (sQ S)) {i : Int32} : ∀ (m x n fu : Nat) (τ : Me), x + m = 100 → n ≤ x → m < fu → Qm N τ S →
    ∃ σ' : Me, fc12_debts_25 N fu (some 60) (nI f) i (nI n) (nI x) τ = some (dbG (fits (sQ S) (sq S) (sR S) f (sF S)) i m x n, σ') ∧ Fr mX τ σ' ∧ Qm N σ' S := by
  intro m
  induction m with
  | zero =>
    intro x n fu τ hx hn hfu h
    obtain ⟨fu, rfl⟩ : ∃ g, fu = g + 1 := ⟨fu - 1, by omega⟩
    refine ⟨τ, ?_, Fr.rf _ _, h⟩
    rw [fc12_debts_25, y99, if_pos (by rw [nI_ltI (by omega) (by omega)]; omega), dbG]
    by_cases e : i = -1
    · rw [if_pos e, if_pos e]
    · rw [if_neg e, if_neg e]
  | succ m ih =>
    intro x n fu τ hx hn hfu h
    obtain ⟨fu, rfl⟩ : ∃ g, fu = g + 1 := ⟨fu - 1, by omega⟩
    obtain ⟨τ1, c1, -, c2, c3⟩ := couldBe_m h hf (show x ≤ 999 by omega)
    have d60 : dr τ (some 60) (.inl 12) = some 60 := by simp only [PN h.1]
    rw [fc12_debts_25, y99, if_neg (by rw [nI_ltI (by omega) (by omega)]; omega), d60, bnd, c1, bnd, dbG]
    by_cases e : fits (sQ S) (sq S) (sR S) f (sF S) x = true
    · rw [e, bI_t, if_neg one0, if_pos rfl]
      by_cases e2 : nI n = i
      · rw [if_pos e2, if_pos e2]
        exact ⟨τ1, rfl, c2, c3⟩
      · rw [if_neg e2, if_neg e2]
        obtain ⟨σ', z1, z2, z3⟩ := ih (x + 1) (n + 1) fu τ1 (by omega) (by omega) (by omega) c3
        refine ⟨σ', ?_, c2.tr z2, z3⟩
        rw [← z1]; simp only [fc12_debts_56, nI_1]
    · have e' : fits (sQ S) (sq S) (sR S) f (sF S) x = false := by simpa using e
      rw [e', bI_f, if_pos rfl, if_neg (by decide)]
      obtain ⟨σ', z1, z2, z3⟩ := ih (x + 1) n fu τ1 (by omega) (by omega) (by omega) c3
      refine ⟨σ', ?_, c2.tr z2, z3⟩
      rw [← z1]; simp only [fc12_debts_56, nI_1]
theorem debts_m (h : Qm N σ S) {f : Nat} (hf : f < pn (sQ S)) {i : Int32} (hi : (-1 : Int32) ≤ i) : Am S σ (dbA (dbF (fits (sQ S) (sq S) (sR S) f (sF S)) 100 0) i) (fc12_debts N 60 (nI f) i σ) := by
  have hq := h.th
  have hN := h.2.2.2.2.2
  have b6 := h.2.2.1.n6
  obtain ⟨σ', z1, z2, z3⟩ := debts25_m (N := N) hf (i := i) 100 0 0 N _ (by omega) (by omega) (by omega) hq
  refine Am.of ?_ z2 z3
  rw [← dbG_A _ hi, ← z1, fc12_debts, th0 h.1, bnd]
  simp (disch := omega) only [PN hq.1, bnd, mfield_y hq.1 hq.n24 b6 hf, one0, hi, if_true, if_false, ↓reduceIte, and_true, true_and, and_false, false_and, not_true_eq_false, not_false_eq_true, and_self]
  rfl
theorem debts_mn (h : Sh σ) (hr : RM σ S) (hw : WS S) {x y : Int32} (hx : ¬ ∃ f : Nat, f < pn (sQ S) ∧ x = nI f ∧ (-1 : Int32) ≤ y) : fc12_debts N 60 x y σ = some (-1, setI σ 60 0 0) := by
  have b6 := hw.n6
  have ht : Sh (setI σ 60 0 0) := h
  have hn := (hr.th hw).n24
  rw [fc12_debts, th0 h, bnd]
  rcases nix x (n := pn (sQ S)) (by omega) with q | ⟨f, hf, rfl⟩
  · simp (disch := omega) only [PN ht, bnd, mfield_n ht hn q, if_true, if_false, ↓reduceIte, and_true, true_and, and_false, false_and, not_true_eq_false, not_false_eq_true, and_self]
  · have c1 : ¬ (-1 : Int32) ≤ y := fun e => hx ⟨f, hf, rfl, e⟩
    simp (disch := omega) only [PN ht, bnd, mfield_y ht hn b6 hf, one0, c1, if_true, if_false, ↓reduceIte, and_true, true_and, and_false, false_and, not_true_eq_false, not_false_eq_true, and_self]
end MF
