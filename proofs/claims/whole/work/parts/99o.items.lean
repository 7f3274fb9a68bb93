/-! plains told as texts: items -/
def itC (b : Bool) : Nat := if b = true then 3 else 5
def itI (b : Bool) (c : Nat) : Nat := if b = true then (if c = 105 then 1 else if c = 100 then 2 else if c = 112 then 3 else 0) else (if c = 111 then 1 else if c = 110 then 2 else if c = 119 then 3 else if c = 118 then 4 else if c = 99 then 5 else 0)
def lsI (b : Bool) (k : Nat) : Nat := if b = true ∧ k = 1 then 1 else 0
def msI (b : Bool) (k : Nat) : Nat := if b = true then (if k = 0 then 9 else if k = 1 then 99 else 30) else (if k = 1 then 20 else if k = 2 then 30 else if k = 3 then 9 else 99)
def usI (b : Bool) (k : Nat) : Nat := if b = true then (if k = 0 then 1 else if k = 1 then 30 else 2) else (if k = 0 then 0 else if k = 1 then 6 else if k = 2 then 5 else if k = 3 then 3 else 20)
abbrev PI : Type := Nat ⊕ (Nat × (Nat → Nat))
def upN (v : Nat → Nat) (k x : Nat) : Nat → Nat := fun j => if j = k then x else v j
def pItL (T : Tx) (b : Bool) : Nat → Nat → Nat → (Nat → Nat) → PI
  | 0, p, _, _ => .inl p
  | m + 1, p, M, v =>
    if itI b (chr T (nx T p)) = 0 then .inr (nx T p, v) else
    if M / 2 ^ (itI b (chr T (nx T p)) - 1) % 2 = 1 then .inl (nx T p) else
    if isD (chr T (nx T (nx T p + 1))) = true then
      (if isD (chr T (dgN T 2 (nx T (nx T p + 1)) 0).1) = true then .inl (dgN T 2 (nx T (nx T p + 1)) 0).1 else
       if (dgN T 2 (nx T (nx T p + 1)) 0).2 < lsI b (itI b (chr T (nx T p)) - 1) ∨ msI b (itI b (chr T (nx T p)) - 1) < (dgN T 2 (nx T (nx T p + 1)) 0).2 then .inl ((dgN T 2 (nx T (nx T p + 1)) 0).1 - 1) else
       pItL T b m (dgN T 2 (nx T (nx T p + 1)) 0).1 (M ||| 2 ^ (itI b (chr T (nx T p)) - 1)) (upN v (itI b (chr T (nx T p)) - 1) (dgN T 2 (nx T (nx T p + 1)) 0).2))
    else .inl (nx T (nx T p + 1))
def pIt (T : Tx) (b : Bool) (p : Nat) : PI := pItL T b (itC b + 1) p 0 (usI b)
theorem itI_le (b : Bool) (c : Nat) : itI b c ≤ itC b := by
  unfold itI itC
  cases b <;> simp only [Bool.false_eq_true, if_false, if_true] <;> (repeat' split) <;> omega
theorem itC_le (b : Bool) : itC b ≤ 5 := by cases b <;> decide
/-- an item's number is in its bounds -/
def itB (b : Bool) (v : Nat → Nat) : Prop := ∀ k, k < itC b → lsI b k ≤ v k ∧ v k ≤ msI b k
theorem us_B (b : Bool) : itB b (usI b) := by
  have h : ∀ b : Bool, ∀ k, k < itC b → lsI b k ≤ usI b k ∧ usI b k ≤ msI b k := by decide
  exact h b
def GdI (T : Tx) (b : Bool) (p : Nat) (x : PI) : Prop := match x with
  | .inl f => f ≤ T.1
  | .inr z => p ≤ z.1 ∧ z.1 ≤ T.1 ∧ nx T z.1 = z.1 ∧ itB b z.2
theorem dg2_gt {T : Tx} {q : Nat} (h : isD (chr T q) = true) : q + 1 ≤ (dgN T 2 q 0).1 := by
  unfold dgN; rw [if_pos h]; exact dgN_ge T 1 _ _
theorem pItL_gd {T : Tx} {b : Bool} {p0 : Nat} : ∀ (m p M : Nat) (v : Nat → Nat), p0 ≤ p → p ≤ T.1 → itB b v → GdI T b p0 (pItL T b m p M v)
  | 0, p, _, _, _, hp, _ => hp
  | m + 1, p, M, v, h0, hp, hv => by
    have hg := nx_ge T p
    unfold pItL
    split
    · exact ⟨by show p0 ≤ nx T p; omega, nx_le hp, nx_nx T p, hv⟩
    · rename_i c0
      have hlt : nx T p < T.1 := chr_in (fun w => c0 (by rw [w]; cases b <;> rfl))
      have hg2 := nx_ge T (nx T p + 1)
      split
      · exact nx_le hp
      · split
        · rename_i c2
          have hd := isD_le c2
          have hlt2 : nx T (nx T p + 1) < T.1 := chr_in (by omega)
          have h1 := dgN_le T 2 (nx T (nx T p + 1)) 0 (by omega)
          have h3 := dg2_gt c2
          split
          · exact h1
          · split
            · show _ - 1 ≤ T.1; omega
            · rename_i c4
              refine pItL_gd m _ _ _ (by omega) h1 (fun k hk => ?_)
              unfold upN
              by_cases e : k = itI b (chr T (nx T p)) - 1
              · rw [if_pos e, e]; omega
              · rw [if_neg e]; exact hv k hk
        · exact nx_le hlt
theorem pIt_gd {T : Tx} {b : Bool} {p : Nat} (hp : p ≤ T.1) : GdI T b p (pIt T b p) := pItL_gd _ p 0 _ (Nat.le_refl _) hp (us_B b)
/-! the class's items -/
def itX : Nat → Nat → Bool := fun a j => (a == 1 && j == 2) || a == 4
theorem itX_f : Sf itX := by
  have h : ∀ q ∈ rfL, itX q.1.1 q.1.2 = false := by decide +kernel
  exact h
theorem Fr.ai {σ σ' : Me} (h : Fr aX σ σ') : Fr itX σ σ' := h.mono (fun a j e => by
  simp only [itX, Bool.or_eq_false_iff] at e
  exact e.1)
def strI (b : Bool) : Nat := if b = true then 1000020 else 1000021
def leastRow (b : Bool) : Nat := if b = true then 1000002 else 1000004
def mostRow (b : Bool) : Nat := if b = true then 1000003 else 1000005
def ParI (T : Tx) (σ : Me) (n : Nat) (x : PI) (o : Option (Int32 × Me)) : Prop := match x with
  | .inl f => ∃ σ' : Me, o = some (0, σ') ∧ Fr itX σ σ' ∧ mi σ' 1 2 = nI f
  | .inr z => ∃ σ' : Me, o = some (if chr T z.1 = 59 ∨ chr T z.1 = 0 then 1 else 0, σ') ∧ Fr itX σ σ' ∧ mi σ' 1 2 = nI z.1 ∧ ∀ k, k < n → mi σ' 4 k = nI (z.2 k)
theorem ix_i : ∀ c, c < 256 → ixL (sb c) [105, 100, 112] 0 = if itI true c = 0 then -1 else nI (itI true c - 1) := by decide +kernel
theorem ix_f : ∀ c, c < 256 → ixL (sb c) [111, 110, 119, 118, 99] 0 = if itI false c = 0 then -1 else nI (itI false c - 1) := by decide +kernel
theorem ix_im : ∀ c, c < 256 → ixL (lk c) [105, 100, 112] 0 = if itI true c = 0 then -1 else nI (itI true c - 1) := by decide +kernel
theorem ix_fm : ∀ c, c < 256 → ixL (lk c) [111, 110, 119, 118, 99] 0 = if itI false c = 0 then -1 else nI (itI false c - 1) := by decide +kernel
section IC
variable {N : Nat} {σ : Me} {T : Tx} {p : Nat} {b : Bool}
theorem w_ic : Wrd N σ 1000020 3 [105, 100, 112] := Wrd.of (by decide) rfl rfl rfl (by decide) (fun b hb => by
  have : ∀ b ∈ ([105, 100, 112] : List Int32), UInt32.toInt32 (Int32.toUInt32 (b &&& (255 : Int32)) % 65536) = b ∧ narrow .char (.int b) = .int b := by decide +kernel
  exact ⟨(this b hb).1, fun σ => if_pos (this b hb).2⟩)
theorem w_fc : Wrd N σ 1000021 5 [111, 110, 119, 118, 99] := Wrd.of (by decide) rfl rfl rfl (by decide) (fun b hb => by
  have : ∀ b ∈ ([111, 110, 119, 118, 99] : List Int32), UInt32.toInt32 (Int32.toUInt32 (b &&& (255 : Int32)) % 65536) = b ∧ narrow .char (.int b) = .int b := by decide +kernel
  exact ⟨(this b hb).1, fun σ => if_pos (this b hb).2⟩)
theorem str_d (b : Bool) : drS (some (strI b)) = some (strI b) := by cases b <;> rfl
theorem str_l : fSr_length N (strI b) σ = some (nI (itC b), σ) := by
  cases b
  · exact w_fc.2.1
  · exact w_ic.2.1
theorem str_x {c : Nat} (hc : c < 256) (hN : 300 ≤ N) : fSr_indexOf N (strI b) (UInt32.toInt32 (Int32.toUInt32 (nI c) % 65536)) σ = some (if itI b c = 0 then -1 else nI (itI b c - 1), σ) := by
  cases b
  · show fSr_indexOf N 1000021 _ σ = _
    rw [ixS (a := 1000021) (n := 5) (L := [111, 110, 119, 118, 99]) (by decide) rfl rfl rfl (by decide) (by decide) hN hc, ix_f c hc]
  · show fSr_indexOf N 1000020 _ σ = _
    rw [ixS (a := 1000020) (n := 3) (L := [105, 100, 112]) (by decide) rfl rfl rfl (by decide) (by decide) hN hc, ix_i c hc]
theorem ls_l {j : Nat} (hj : j < itC b) : ldI σ (some (leastRow b)) (nI j) = some (nI (lsI b j)) := by
  have h : ∀ b : Bool, ∀ j, j < itC b → sld (leastRow b) (nI j) = some (nI (lsI b j)) := by decide +kernel
  have e : ldI σ (some (leastRow b)) (nI j) = sld (leastRow b) (nI j) := if_neg (by cases b <;> decide)
  rw [e, h b j hj]
theorem ms_l {j : Nat} (hj : j < itC b) : ldI σ (some (mostRow b)) (nI j) = some (nI (msI b j)) := by
  have h : ∀ b : Bool, ∀ j, j < itC b → sld (mostRow b) (nI j) = some (nI (msI b j)) := by decide +kernel
  have e : ldI σ (some (mostRow b)) (nI j) = sld (mostRow b) (nI j) := if_neg (by cases b <;> decide)
  rw [e, h b j hj]
theorem iq0 (h : Sh σ) : qR σ 6 0 (some 3) = some (some 1) := by simp only [qR, PR h, bnd]
theorem iq1 (h : Sh σ) : qR σ 6 1 (some 3) = some (some 4) := by simp only [qR, PR h, bnd]
theorem iq3 (h : Sh σ) : qR σ 6 3 (some 3) = some (some 5) := by simp only [qR, PR h, bnd]
theorem d3 (h : Sh σ) : dr σ (some 3) (.inl 6) = some 3 := (PR h).2.1
theorem ld_4 (h : Sh σ) {i : Nat} (hi : i < 5) : ldI σ (some 4) (nI i) = some (mi σ 4 i) := by rw [ldI_lo _ _ _ (by decide), A4 h i hi, bnd, nI_clamp (by omega)]
theorem st_4 (h : Sh σ) {i : Nat} (hi : i < 5) (x : Int32) : stI σ (some 4) (nI i) x = some (setI σ 4 i x) := by unfold stI; rw [A4 h i hi, bnd, nI_clamp (by omega)]
theorem bit_up : ∀ M, M < 32 → ∀ f, f < 5 → M ||| 2 ^ f < 32 := by decide +kernel
theorem msI_le (b : Bool) (k : Nat) : msI b k ≤ 99 ∧ lsI b k ≤ 1 := by
  unfold msI lsI
  cases b <;> simp only [Bool.false_eq_true, if_false, if_true, false_and, true_and] <;> (repeat' split) <;> omega
theorem dg2_v (T : Tx) (q : Nat) : (dgN T 2 q 0).2 ≤ 99 := by
  have := dgN_v T 2 q 0 1 (by omega)
  omega
theorem it49 {c : Nat} (hc : c < 256) : fc6_readItems_49 N (nI c) σ = some (if c = 59 ∨ c = 0 then 1 else 0, σ) := by
  unfold fc6_readItems_49 fc6_readItems_61
  by_cases c1 : c = 59
  · rw [if_pos ((chI y59 hc (by decide)).mpr c1), if_pos (.inl c1), retZ1]
  · rw [if_neg (fun w => c1 ((chI y59 hc (by decide)).mp w))]
    by_cases c2 : c = 0
    · rw [if_pos ((nI_ze (by omega)).mpr c2), if_pos (.inr c2), retZ1]
    · rw [if_neg (fun w => c2 ((nI_ze (by omega)).mp w)), if_neg (fun w => w.elim c1 c2), retZ0]
theorem it145 (h : Sh σ) (hp : mi σ 1 2 = nI p) (h1 : 1 ≤ p) : fc6_readItems_145 N (some 3) σ = some (0, setI σ 1 2 (nI (p - 1))) := by
  rw [fc6_readItems_145, iq0 h, bnd, tq2 h hp, bnd, y1, pk_sub h1, tp2 h, bnd, retZ0]
theorem items6_c (hT : txOK T) (hN : 300 ≤ N) {σ0 : Me} : ∀ (m k p M fu : Nat) (v : Nat → Nat) (σ : Me), k + m = itC b + 1 → m < fu → p ≤ T.1 → M < 32 → Sh σ → TpC σ T → mi σ 1 2 = nI p → (∀ j, j < itC b → mi σ 4 j = nI (v j)) → Fr itX σ0 σ → ParI T σ0 (itC b) (pItL T b m p M v) (fc6_readItems_6 N fu (some 3) (some (strI b)) (some (leastRow b)) (some (mostRow b)) (nI M) (nI k) σ)
  | _, _, _, _, 0, _, _, _, h0, _, _, _, _, _, _, _ => absurd h0 (Nat.not_lt_zero _)
  | 0, k, p, M, fu + 1, v, σ, hk, _, hpl, hM, h, ht, hp, hv, f => by
    have h5 := itC_le b
    rw [fc6_readItems_6, str_d, bnd, str_l, bnd, if_pos (nI_lt (by omega) (by omega)), retZ0]
    exact ⟨σ, rfl, f, hp⟩
  | m + 1, k, p, M, fu + 1, v, σ, hk, h0, hpl, hM, h, ht, hp, hv, f => by
    have h5 := itC_le b
    have h240 := hT.1
    obtain ⟨σ1, q1, q2, q3⟩ := next_c (N := N) h hT ht hp hpl hN
    have h1 := q2.sh aX_f h
    have hb := chr_lt hT (nx T p)
    have hg := nx_ge T p
    have v1 : ∀ j, j < itC b → mi σ1 4 j = nI (v j) := fun j hj => by rw [q2.i (by simp [aX])]; exact hv j hj
    rw [fc6_readItems_6, str_d, bnd, str_l, bnd, if_neg (nI_nlt (by omega) (by omega)), iq0 h, bnd, (PR h).1, bnd, q1, bnd, bnd, str_x hb hN, bnd]
    unfold pItL
    by_cases c0 : itI b (chr T (nx T p)) = 0
    · rw [if_pos c0, if_pos c0, if_pos (show (-1 : Int32) < 0 by decide), it49 hb]
      exact ⟨σ1, rfl, f.tr q2.ai, q3, v1⟩
    · have hle := itI_le b (chr T (nx T p))
      have hlt : nx T p < T.1 := chr_in (fun w => c0 (by rw [w]; cases b <;> rfl))
      have nl : ¬ (chr T (nx T p) = 59 ∨ chr T (nx T p) = 0) := by
        have : ∀ b : Bool, itI b 59 = 0 ∧ itI b 0 = 0 := by decide
        rintro (w | w)
        · rw [w] at c0; exact c0 (this b).1
        · rw [w] at c0; exact c0 (this b).2
      rw [if_neg c0, if_neg c0]
      generalize hi : itI b (chr T (nx T p)) - 1 = i
      have hiN : i < itC b := by omega
      rw [if_neg (nI_pos (by omega)), bit_at M (by omega) i (by omega)]
      by_cases c1 : M / 2 ^ i % 2 = 1
      · rw [if_pos c1, if_pos (by rw [c1]; rfl), it49 hb, if_neg nl]
        exact ⟨σ1, rfl, f.tr q2.ai, q3⟩
      · have hs2 : Sh (setI σ1 1 2 (nI (nx T p + 1))) := h1
        have f2 : Fr aX σ (setI σ1 1 2 (nI (nx T p + 1))) := fr_I rfl q2
        obtain ⟨σ3, n1, n2, n3⟩ := number_c (N := N) (M := 2) hs2 hT (ht.ax f2) (mi_eq _ _ _ _) (show nx T p + 1 ≤ T.1 by omega) hN (by decide)
        have h3 := n2.sh aX_f hs2
        have f3 : Fr itX σ0 σ3 := f.tr (f2.ai.tr n2.ai)
        have v3 : ∀ j, j < itC b → mi σ3 4 j = nI (v j) := fun j hj => by
          rw [n2.i (by simp [aX]), mi_ne _ _ (by omega)]; exact v1 j hj
        have ne1 : ¬ nI (M / 2 ^ i % 2) = (1 : Int32) := fun w => c1 ((nI_eq (b := 1) (by omega) (by decide)).mp w)
        rw [if_neg c1, if_neg ne1, iq0 h1, bnd, tq2 h1 q3, bnd, tp2 h1, bnd, nI_1, iq1 hs2, bnd, iq0 hs2, bnd, (PR hs2).1, bnd, y2, n1, bnd, st_4 h3 (by omega), bnd]
        have hg2 := nx_ge T (nx T p + 1)
        by_cases c2 : isD (chr T (nx T (nx T p + 1))) = true
        · have hd := isD_le c2
          have hlt2 : nx T (nx T p + 1) < T.1 := chr_in (by omega)
          have hr1 := dgN_le T 2 (nx T (nx T p + 1)) 0 (by omega)
          have hr2 := dg2_gt c2
          have hr3 := dg2_v T (nx T (nx T p + 1))
          rw [if_pos c2] at n3
          simp only [c2, if_true]
          generalize dgN T 2 (nx T (nx T p + 1)) 0 = r at n3 hr1 hr2 hr3 ⊢
          by_cases c3 : isD (chr T r.1) = true
          · have hs4 : Sh (setI σ3 4 i (-1)) := h3
            simp only [c3, if_true]
            rw [iq1 hs4, bnd, ld_4 hs4 (by omega), bnd, mi_eq, if_pos rfl, retZ0]
            exact ⟨_, rfl, fr_I rfl f3, by rw [mi_ne _ _ (by omega)]; exact n3⟩
          · simp only [c3, Bool.false_eq_true, if_false]
            have hs4 : Sh (setI σ3 4 i (nI r.2)) := h3
            have e4 : mi (setI σ3 4 i (nI r.2)) 1 2 = nI r.1 := by rw [mi_ne _ _ (by omega)]; exact n3
            have hms := msI_le b i
            have f4 : Fr itX σ0 (setI σ3 4 i (nI r.2)) := fr_I rfl f3
            rw [iq1 hs4, bnd, ld_4 hs4 (by omega), bnd, mi_eq, if_neg (nI_m1 (by omega)), bnd, ld_4 hs4 (by omega), bnd, mi_eq, ls_l hiN, bnd]
            by_cases c4 : r.2 < lsI b i
            · rw [if_pos (nI_lt c4 (by omega)), it145 hs4 e4 (by omega), if_pos (.inl c4)]
              exact ⟨_, rfl, fr_I rfl f4, mi_eq _ _ _ _⟩
            · rw [if_neg (nI_nlt (by omega) (by omega)), bnd, ld_4 hs4 (by omega), bnd, mi_eq, ms_l hiN, bnd]
              by_cases c5 : r.2 ≤ msI b i
              · have c6 : ¬ (r.2 < lsI b i ∨ msI b i < r.2) := by omega
                rw [if_pos (nI_le c5 (by omega)), if_neg c6, bit_or M (by omega) i (by omega), nI_1]
                refine items6_c hT hN m (k + 1) r.1 _ fu _ _ (by omega) (by omega) hr1 (bit_up M hM i (by omega)) hs4 ?_ e4 (fun j hj => ?_) f4
                · exact ((ht.ax f2).ax n2).fr (X := itX) (fr_I rfl (Fr.rf _ _)) rfl (fun _ => rfl)
                · unfold upN
                  by_cases e : j = i
                  · rw [if_pos e, e, mi_eq]
                  · rw [if_neg e, mi_ne _ _ (by omega)]; exact v3 j hj
              · have c6 : r.2 < lsI b i ∨ msI b i < r.2 := .inr (by omega)
                rw [if_neg (nI_ge (by omega) (by omega)), it145 hs4 e4 (by omega), if_pos c6]
                exact ⟨_, rfl, fr_I rfl f4, mi_eq _ _ _ _⟩
        · have c2' : isD (chr T (nx T (nx T p + 1))) = false := by simpa using c2
          rw [if_neg c2] at n3
          simp only [c2', Bool.false_eq_true, if_false]
          have hs4 : Sh (setI σ3 4 i (-1)) := h3
          rw [iq1 hs4, bnd, ld_4 hs4 (by omega), bnd, mi_eq, if_pos rfl, retZ0]
          exact ⟨_, rfl, fr_I rfl f3, by rw [mi_ne _ _ (by omega)]; exact n3⟩
end IC
