/-! questions to the class: a year ahead -/
/-- what the held law pays, whatever a question writes -/
def PdX (N : Nat) (σ : Me) (b : Nat) (q : PF) : Prop :=
  (mr σ 31 0 = none ∧ ∀ o n w v s t, o ≤ 999 → q o n w v s t = min 99 (o / 2)) ∨
  (∃ la, mr σ 31 0 = some la ∧ dr σ (some la) (.inl 3) = some la ∧ ∀ τ, Fr (cX b) σ τ → ∀ o n w v s t, o ≤ 999 → n ≤ 20 → w ≤ 30 → v ≤ 9 → s ≤ 49 → t ≤ 1500 → mi τ 36 0 = nI o → mi τ 36 1 = nI n → mi τ 36 2 = nI w → mi τ 36 3 = nI v → mi τ 36 4 = nI s → mi τ 36 5 = nI t →
    ∃ x τ', fc3_worth N la (some 36) τ = some (x, τ') ∧ Fr (kS b) τ τ' ∧ ∀ ρ, fc11_held N (nI 0) x (nI 99) ρ = some (nI (q o n w v s t), ρ))
theorem sS_c {b a j : Nat} (h : cX b a j = false) : sS b a j = false := by
  simp only [cX, sS, Bool.or_eq_false_iff, Bool.and_eq_false_iff, decide_eq_false_iff_not, beq_eq_false_iff_ne] at h ⊢
  omega
theorem ld25_c {b a j : Nat} (h : cX b a j = false) : ldS 25 a j = false := by
  simp only [cX, ldS, Bool.or_eq_false_iff, Bool.and_eq_false_iff, decide_eq_false_iff_not, beq_eq_false_iff_ne] at h ⊢
  omega
theorem u25_c {b a j : Nat} (h : cX b a j = false) : uS 25 a j = false := by
  simp only [cX, uS, Bool.or_eq_false_iff, Bool.and_eq_false_iff, decide_eq_false_iff_not, beq_eq_false_iff_ne] at h ⊢
  omega
/-- what the sky and the guess write -/
def gX (b : Nat) : Nat → Nat → Bool := fun a j => (a == 25 && decide (5 ≤ j)) || (decide (26 ≤ a) && decide (a ≤ 30)) || (a == 31 && decide (6 ≤ j)) || (decide (32 ≤ a) && decide (a ≤ 36)) || (decide (85 ≤ a) && a == b)
theorem gX_c {b a j : Nat} (h : cX b a j = false) : gX b a j = false := by
  simp only [cX, gX, Bool.or_eq_false_iff, Bool.and_eq_false_iff, decide_eq_false_iff_not, beq_eq_false_iff_ne] at h ⊢
  omega
theorem sS_g {b a j : Nat} (h : gX b a j = false) : sS b a j = false := by
  simp only [gX, sS, Bool.or_eq_false_iff, Bool.and_eq_false_iff, decide_eq_false_iff_not, beq_eq_false_iff_ne] at h ⊢
  omega
theorem ld25_g {b a j : Nat} (h : gX b a j = false) : ldS 25 a j = false := by
  simp only [gX, ldS, Bool.or_eq_false_iff, Bool.and_eq_false_iff, decide_eq_false_iff_not, beq_eq_false_iff_ne] at h ⊢
  omega
theorem u25_g {b a j : Nat} (h : gX b a j = false) : uS 25 a j = false := by
  simp only [gX, uS, Bool.or_eq_false_iff, Bool.and_eq_false_iff, decide_eq_false_iff_not, beq_eq_false_iff_ne] at h ⊢
  omega
theorem Fr.gc {b : Nat} {σ σ' : Me} (h : Fr (gX b) σ σ') : Fr (cX b) σ σ' := h.mono (fun _ _ e => gX_c e)
theorem PdX.c {N : Nat} {σ : Me} {b : Nat} {q : PF} (h : PdX N σ b q) : PdC N σ b q := by
  rcases h with h | ⟨la, h1, h2, h3⟩
  · exact .inl h
  · exact .inr ⟨la, h1, h2, fun τ hτ => h3 τ (hτ.mono (fun a j e => sS_c e))⟩
theorem PdX.fr {N : Nat} {σ σ' : Me} {b : Nat} {q : PF} (h : PdX N σ b q) (k : Fr (cX b) σ σ') : PdX N σ' b q := by
  rcases h with ⟨h1, h2⟩ | ⟨la, h1, h2, h3⟩
  · exact .inl ⟨by rw [k.r rfl]; exact h1, h2⟩
  · exact .inr ⟨la, by rw [k.r rfl]; exact h1, by rw [Fr_d k]; exact h2, fun τ hτ => h3 τ (k.tr hτ)⟩
theorem pdX_of {N : Nat} {σ : Me} {ls : List LwE} {hold : Option Nat} (h : Sh σ) (hl : LwC σ ls hold) (hh : holdOK ls hold) (hc : ∀ (k : Nat) (q : LwE), ls[k]? = some q → codeOK q.2.2) (hN : 300 ≤ N) : PdX N σ (bOf ls hold) (qOf ls hold) := by
  cases hold with
  | none => exact .inl ⟨hl.2.2.1, fun o n w v s t ho => rfl⟩
  | some k =>
    have hk := hh k rfl
    cases e : ls[k]? with
    | none => rw [List.getElem?_eq_none_iff] at e; omega
    | some q =>
      have e1 : bOf ls (some k) = q.1 + 2 := by unfold bOf; rw [Option.bind_some, e]
      have e2 : qOf ls (some k) = payQ q.2.2 := by unfold qOf; rw [Option.bind_some, e]
      have e3 : mr σ 31 0 = some q.1 := by rw [hl.2.2.1, Option.bind_some, e]; rfl
      have hq := (hl.2.2.2 k q e).2
      rw [e1, e2]
      refine .inr ⟨q.1, e3, dr_ok hq.1, fun τ hτ o n w v s t _ _ _ _ _ _ l0 l1 l2 l3 l4 l5 => ?_⟩
      have h85 : 85 ≤ q.1 := hq.2.2.2.1
      have hqt := hq.fr hτ (fun j => cX_hi h85 (by omega)) (fun j => cX_hi (by omega) (by omega))
      obtain ⟨τ', w1, w2⟩ := worth_c (N := N) (L := Lof o n w v s t) (hτ.sh (cX_f _) h) hqt (fun k hk => by
        have : k = 0 ∨ k = 1 ∨ k = 2 ∨ k = 3 ∨ k = 4 ∨ k = 5 := by omega
        rcases this with rfl | rfl | rfl | rfl | rfl | rfl
        · exact l0
        · exact l1
        · exact l2
        · exact l3
        · exact l4
        · exact l5) (hc k q e).1 (hc k q e).2 hN
      exact ⟨_, τ', w1, w2, fun ρ => held_c N _ ρ⟩
/-- the class before a question about years -/
def Qc (N : Nat) (σ : Me) (P : Pl) (r : Rw) (q : PF) (b : Nat) : Prop := Sh σ ∧ LdC σ 19 P r ∧ PlB P ∧ RwB (pn P) r ∧ 2 ≤ pn P ∧ rt r ≤ 999 ∧ PdX N σ b q ∧ QB q ∧ 300 ≤ N
theorem Qc.fr {N : Nat} {σ σ' : Me} {P : Pl} {r : Rw} {q : PF} {b : Nat} (h : Qc N σ P r q b) (k : Fr (cX b) σ σ') : Qc N σ' P r q b :=
  ⟨k.sh (cX_f b) h.1, h.2.1.fr k (fun _ => ⟨rfl, rfl, rfl, rfl, rfl, rfl⟩), h.2.2.1, h.2.2.2.1, h.2.2.2.2.1, h.2.2.2.2.2.1, h.2.2.2.2.2.2.1.fr k, h.2.2.2.2.2.2.2.1, h.2.2.2.2.2.2.2.2⟩
section QS
variable {N : Nat} {σ : Me} {P : Pl} {r : Rw} {q : PF} {b : Nat}
theorem look19_g (h : Qc N σ P r q b) {rain : Nat} (hr : rain ≤ 99) : ∃ σ' : Me, fc9_look N 31 (some 19) (nI rain) σ = some ((), σ') ∧ Fr (gX b) σ σ' ∧ LkC σ' P q r rain := by
  obtain ⟨h1, h2, h3, h4, h5, h6, h7, h8, h9⟩ := h
  obtain ⟨σ', a1, a2, a3⟩ := look_c (N := N) (rain := rain) h1 (.inl rfl) h2 h3 h4 h7.c h8 h5 hr (by omega)
  exact ⟨σ', a1, a2.mono (fun a j e => sS_g e), a3⟩
theorem look19 (h : Qc N σ P r q b) {rain : Nat} (hr : rain ≤ 99) : ∃ σ' : Me, fc9_look N 31 (some 19) (nI rain) σ = some ((), σ') ∧ Fr (cX b) σ σ' ∧ LkC σ' P q r rain := by
  obtain ⟨h1, h2, h3, h4, h5, h6, h7, h8, h9⟩ := h
  obtain ⟨σ', a1, a2, a3⟩ := look_c (N := N) (rain := rain) h1 (.inl rfl) h2 h3 h4 h7.c h8 h5 hr (by omega)
  exact ⟨σ', a1, a2.mono (fun a j e => sS_c e), a3⟩
theorem look25_g (h : Qc N σ P r q b) {r' : Rw} (hL : LdC σ 25 P r') (hR : RwB (pn P) r') {rain : Nat} (hr : rain ≤ 99) : ∃ σ' : Me, fc9_look N 31 (some 25) (nI rain) σ = some ((), σ') ∧ Fr (gX b) σ σ' ∧ LkC σ' P q r' rain ∧ LdC σ' 25 P r' := by
  obtain ⟨h1, h2, h3, h4, h5, h6, h7, h8, h9⟩ := h
  obtain ⟨σ', a1, a2, a3⟩ := look_c (N := N) (rain := rain) h1 (.inr rfl) hL h3 hR h7.c h8 h5 hr (by omega)
  exact ⟨σ', a1, a2.mono (fun a j e => sS_g e), a3, hL.fr a2 (fun _ => ⟨rfl, rfl, rfl, rfl, rfl, rfl⟩)⟩
theorem look25 (h : Qc N σ P r q b) {r' : Rw} (hL : LdC σ 25 P r') (hR : RwB (pn P) r') {rain : Nat} (hr : rain ≤ 99) : ∃ σ' : Me, fc9_look N 31 (some 25) (nI rain) σ = some ((), σ') ∧ Fr (cX b) σ σ' ∧ LkC σ' P q r' rain ∧ LdC σ' 25 P r' := by
  obtain ⟨h1, h2, h3, h4, h5, h6, h7, h8, h9⟩ := h
  obtain ⟨σ', a1, a2, a3⟩ := look_c (N := N) (rain := rain) h1 (.inr rfl) hL h3 hR h7.c h8 h5 hr (by omega)
  exact ⟨σ', a1, a2.mono (fun a j e => sS_c e), a3, hL.fr a2 (fun _ => ⟨rfl, rfl, rfl, rfl, rfl, rfl⟩)⟩
theorem settle25_g (h : Qc N σ P r q b) {r' : Rw} (hL : LdC σ 25 P r') (hR : RwB (pn P) r') {rain : Nat} (hr : rain ≤ 99) (hk : LkC σ P q r' rain) : ∃ σ' : Me, fc9_settle N 31 (some 25) σ = some ((), σ') ∧ Fr (gX b) σ σ' ∧ LdC σ' 25 P (yrY P q r' rain) := by
  obtain ⟨h1, h2, h3, h4, h5, h6, h7, h8, h9⟩ := h
  obtain ⟨σ', a1, a2, a3⟩ := settle_c (N := N) h1 (.inr rfl) hL h3 hR hk hr (by omega)
  exact ⟨σ', a1, a2.mono (fun a j e => u25_g e), a3⟩
theorem settle25 (h : Qc N σ P r q b) {r' : Rw} (hL : LdC σ 25 P r') (hR : RwB (pn P) r') {rain : Nat} (hr : rain ≤ 99) (hk : LkC σ P q r' rain) : ∃ σ' : Me, fc9_settle N 31 (some 25) σ = some ((), σ') ∧ Fr (cX b) σ σ' ∧ LdC σ' 25 P (yrY P q r' rain) := by
  obtain ⟨h1, h2, h3, h4, h5, h6, h7, h8, h9⟩ := h
  obtain ⟨σ', a1, a2, a3⟩ := settle_c (N := N) h1 (.inr rfl) hL h3 hR hk hr (by omega)
  exact ⟨σ', a1, a2.mono (fun a j e => u25_c e), a3⟩
theorem copy25_g (h : Qc N σ P r q b) : ∃ σ' : Me, fc2_copyFrom N 25 (some 19) σ = some ((), σ') ∧ Fr (gX b) σ σ' ∧ LdC σ' 25 P r := by
  obtain ⟨σ', a1, a2, a3⟩ := copyFrom_c (N := N) h.1 (a := 25) (b := 19) (.inr (.inl rfl)) (.inr (.inr rfl)) (by decide)
  exact ⟨σ', a1, a2.mono (fun a j e => ld25_g e), a3 P r h.2.1 h.2.2.1.1⟩
theorem copy25 (h : Qc N σ P r q b) : ∃ σ' : Me, fc2_copyFrom N 25 (some 19) σ = some ((), σ') ∧ Fr (cX b) σ σ' ∧ LdC σ' 25 P r := by
  obtain ⟨σ', a1, a2, a3⟩ := copyFrom_c (N := N) h.1 (a := 25) (b := 19) (.inr (.inl rfl)) (.inr (.inr rfl)) (by decide)
  exact ⟨σ', a1, a2.mono (fun a j e => ld25_c e), a3 P r h.2.1 h.2.2.1.1⟩
theorem LkC.fr {σ' : Me} {rain : Nat} {X : Nat → Nat → Bool} (h : LkC σ P q r rain) (k : Fr X σ σ') (h1 : ∀ j, X 31 j = false ∧ X 32 j = false ∧ X 34 j = false ∧ X 35 j = false) : LkC σ' P q r rain :=
  ⟨by rw [k.i (h1 _).1]; exact h.1, by rw [k.i (h1 _).1]; exact h.2.1, by rw [k.i (h1 _).1]; exact h.2.2.1, by rw [k.i (h1 _).1]; exact h.2.2.2.1, fun f hf => by rw [k.i (h1 _).2.1, k.i (h1 _).2.2.1, k.i (h1 _).2.2.2]; exact h.2.2.2.2 f hf⟩
theorem falls_c (h : Qc N σ P r q b) {f rain : Nat} (hf : f < pn P) (hr : rain ≤ 99) : ∃ σ' : Me, fc11_falls N 0 (nI f) (nI rain) σ = some (nI (falY P q r rain f), σ') ∧ Fr (cX b) σ σ' := by
  obtain ⟨σ1, l1, l2, l3⟩ := look19 h hr
  have h1 := h.fr l2
  have b6 := h.2.2.1.1
  have c : ¬ (1 : Int32) = 0 := by decide
  have e := (l3.2.2.2.2 f hf).2.1
  refine ⟨σ1, ?_, l2⟩
  simp (disch := omega) only [fc11_falls, qR, PK h.1, bnd, has_y h.1 (.inl rfl) h.2.1.1 b6 hf, rain_y hr, c, if_true, if_false, ↓reduceIte, and_true, true_and, and_false, false_and, not_true_eq_false, not_false_eq_true, and_self, l1, PK h1.1, ldI_lo, A34 h1.1, nI_clamp, e]
theorem falls_n (h : Sh σ) {n : Nat} (hn : mi σ 19 5 = nI n) (h6 : n ≤ 6) {x y : Int32} (hx : ¬ ∃ f j : Nat, f < n ∧ j < 100 ∧ x = nI f ∧ y = nI j) : fc11_falls N 0 x y σ = some (-1, σ) := by
  have c : ¬ (1 : Int32) = 0 := by decide
  rcases nix x (n := n) (by omega) with q | ⟨i, hi, rfl⟩
  · simp (disch := omega) only [fc11_falls, qR, PK h, bnd, has_n h (.inl rfl) hn q, if_true, if_false, ↓reduceIte, and_true, true_and, and_false, false_and, not_true_eq_false, not_false_eq_true, and_self]
  · rcases nix y (n := 100) (by omega) with q | ⟨j, hj, rfl⟩
    · simp (disch := omega) only [fc11_falls, qR, PK h, bnd, has_y h (.inl rfl) hn h6 hi, rain_n q, c, if_true, if_false, ↓reduceIte, and_true, true_and, and_false, false_and, not_true_eq_false, not_false_eq_true, and_self]
    · exact absurd ⟨i, j, hi, hj, rfl, rfl⟩ hx
theorem drowns_c (h : Qc N σ P r q b) {rain : Nat} (hr : rain ≤ 99) : ∃ σ' : Me, fc11_drowns N 0 (nI rain) σ = some (nI (bitsY P q r rain), σ') ∧ Fr (cX b) σ σ' := by
  obtain ⟨σ1, l1, l2, l3⟩ := look19 h hr
  have h1 := h.fr l2
  have b6 := h.2.2.1.1
  have b2 := h.2.2.2.2.1
  have c : ¬ (1 : Int32) = 0 := by decide
  refine ⟨σ1, ?_, l2⟩
  simp (disch := omega) only [fc11_drowns, qR, qI, PK h.1, bnd, sky_y h.1 h.2.1.1 b6 (show 0 < pn P by omega) hr, c, if_true, if_false, ↓reduceIte, and_true, true_and, and_false, false_and, not_true_eq_false, not_false_eq_true, and_self, l1, PK h1.1, l3.2.2.1]
theorem drowns_n (h : Sh σ) {n : Nat} (hn : mi σ 19 5 = nI n) (h6 : n ≤ 6) {x : Int32} (hx : n = 0 ∨ x < 0 ∨ nI 100 ≤ x) : fc11_drowns N 0 x σ = some (-1, σ) := by
  simp (disch := omega) only [fc11_drowns, PK h, bnd, sky_n h hn h6 hx, if_true, if_false, ↓reduceIte, and_true, true_and, and_false, false_and, not_true_eq_false, not_false_eq_true, and_self]
theorem harvest_c (h : Qc N σ P r q b) {rain : Nat} (hr : rain ≤ 99) : ∃ σ' : Me, fc11_harvest N 0 (nI rain) σ = some (nI (borY P q r rain), σ') ∧ Fr (cX b) σ σ' := by
  obtain ⟨σ1, l1, l2, l3⟩ := look19 h hr
  have h1 := h.fr l2
  have b6 := h.2.2.1.1
  have b2 := h.2.2.2.2.1
  have c : ¬ (1 : Int32) = 0 := by decide
  refine ⟨σ1, ?_, l2⟩
  simp (disch := omega) only [fc11_harvest, qR, qI, PK h.1, bnd, sky_y h.1 h.2.1.1 b6 (show 0 < pn P by omega) hr, c, if_true, if_false, ↓reduceIte, and_true, true_and, and_false, false_and, not_true_eq_false, not_false_eq_true, and_self, l1, PK h1.1, l3.2.2.2.1]
theorem harvest_n (h : Sh σ) {n : Nat} (hn : mi σ 19 5 = nI n) (h6 : n ≤ 6) {x : Int32} (hx : n = 0 ∨ x < 0 ∨ nI 100 ≤ x) : fc11_harvest N 0 x σ = some (-1, σ) := by
  simp (disch := omega) only [fc11_harvest, PK h, bnd, sky_n h hn h6 hx, if_true, if_false, ↓reduceIte, and_true, true_and, and_false, false_and, not_true_eq_false, not_false_eq_true, and_self]
/-- the most rain below m by which nobody drowns -/
def sfN (P : Pl) (q : PF) (r : Rw) : Nat → Option Nat
  | 0 => none
  | m + 1 => if bitsY P q r m = 0 then some m else sfN P q r m
theorem bitsY_lt (hB : PlB P) (rain : Nat) : bitsY P q r rain < 64 := bits_lt P _ _ hB.1
theorem ng1 : (-1 : Int32) = -nI 1 := rfl
theorem nI_m0 : nI 0 + -nI 1 = -nI 1 := rfl
theorem safe15_c : ∀ (m fu : Nat) (σ : Me), m ≤ 100 → m < fu → Qc N σ P r q b → ∃ σ' : Me, fc11_safe_15 N fu (some 0) (if m = 0 then -nI 1 else nI (m - 1)) σ = some (oI (sfN P q r m), σ') ∧ Fr (cX b) σ σ'
  | _, 0, _, _, h0, _ => absurd h0 (Nat.not_lt_zero _)
  | 0, fu + 1, σ, _, _, h => by
    refine ⟨σ, ?_, Fr.rf _ _⟩
    have c : -nI 1 < 0 := by decide
    simp only [fc11_safe_15, c, if_true, if_false, ↓reduceIte, and_true, true_and, and_false, false_and, not_true_eq_false, not_false_eq_true, and_self]
    rfl
  | m + 1, fu + 1, σ, hm, h0, h => by
    obtain ⟨σ1, l1, l2, l3⟩ := look19 h (rain := m) (by omega)
    have h1 := h.fr l2
    have c0 : ¬ m + 1 = 0 := by omega
    have cp := nI_pos (n := m) (by omega)
    rw [if_neg c0, Nat.add_sub_cancel]
    have hb := bitsY_lt (q := q) (r := r) h.2.2.1 m
    by_cases hd : bitsY P q r m = 0
    · refine ⟨σ1, ?_, l2⟩
      rw [sfN, if_pos hd]
      have l38 := l3.2.2.1
      rw [hd] at l38
      simp (disch := omega) only [fc11_safe_15, cp, qR, qI, PK h.1, bnd, l1, PK h1.1, l38, nI_0, if_true, if_false, ↓reduceIte, and_true, true_and, and_false, false_and, not_true_eq_false, not_false_eq_true, and_self]
      rfl
    · obtain ⟨σ2, z1, z2⟩ := safe15_c m fu σ1 (by omega) (by omega) h1
      refine ⟨σ2, ?_, l2.tr z2⟩
      rw [sfN, if_neg hd, ← z1]
      have e : nI m + -nI 1 = if m = 0 then -nI 1 else nI (m - 1) := by
        by_cases c : m = 0
        · rw [if_pos c, c]; rfl
        · rw [if_neg c]
          obtain ⟨k, rfl⟩ : ∃ k, m = k + 1 := ⟨m - 1, by omega⟩
          rw [nI_p1]; rfl
      have hd' : ¬ nI (bitsY P q r m) = 0 := nI_ne0 (by omega) (by omega)
      simp (disch := omega) only [fc11_safe_15, cp, qR, qI, PK h.1, bnd, l1, PK h1.1, l3.2.2.1, y1, hd', if_true, if_false, ↓reduceIte, and_true, true_and, and_false, false_and, not_true_eq_false, not_false_eq_true, and_self, e]
theorem safe_c (h : Qc N σ P r q b) : ∃ σ' : Me, fc11_safe N 0 σ = some (oI (sfN P q r 100), σ') ∧ Fr (cX b) σ σ' := by
  have h9 := h.2.2.2.2.2.2.2.2
  obtain ⟨σ', z1, z2⟩ := safe15_c 100 N σ (by omega) (by omega) h
  refine ⟨σ', ?_, z2⟩
  have b6 := h.2.2.1.1
  have b2 := h.2.2.2.2.1
  have c : ¬ pn P = 0 := by omega
  rw [← z1]
  simp (disch := omega) only [fc11_safe, qR, qI, PK h.1, bnd, h.2.1.1, y0, nI_eq, c, if_true, if_false, ↓reduceIte, and_true, true_and, and_false, false_and, not_true_eq_false, not_false_eq_true, and_self]
  rfl
theorem safe_n (h : Sh σ) (hn : mi σ 19 5 = nI 0) : fc11_safe N 0 σ = some (-1, σ) := by
  simp (disch := omega) only [fc11_safe, qR, qI, PK h, bnd, hn, y0, if_true, if_false, ↓reduceIte, and_true, true_and, and_false, false_and, not_true_eq_false, not_false_eq_true, and_self]
/-- how often a field drowns -/
def odN (P : Pl) (q : PF) (r : Rw) (f : Nat) : Nat → Nat → Nat → Nat
  | 0, _, acc => acc
  | m + 1, rain, acc => odN P q r f m (rain + 1) (acc + bt (bitsY P q r rain) f)
theorem odN_le : ∀ (m rain acc : Nat) (f : Nat), odN P q r f m rain acc ≤ acc + m
  | 0, _, acc, _ => Nat.le_refl _
  | m + 1, rain, acc, f => by
    unfold odN
    have h1 := odN_le m (rain + 1) (acc + bt (bitsY P q r rain) f) f
    have h2 := bt_01 (bitsY P q r rain) f
    omega
theorem odds34_c {f lo hi : Nat} (hf : f < pn P) (hlo : lo ≤ hi) (hhi : hi ≤ 99) : ∀ (m k fu acc : Nat) (σ : Me), k + m = hi + 1 → lo ≤ k → acc ≤ k → m < fu → Qc N σ P r q b →
    ∃ σ' : Me, fc11_odds_34 N fu (some 0) (nI f) (nI lo) (nI hi) (nI acc) (nI k) σ = some (nI (odN P q r f m k acc * 1000000 / (hi - lo + 1)), σ') ∧ Fr (cX b) σ σ'
  | _, _, 0, _, _, _, _, _, h0, _ => absurd h0 (Nat.not_lt_zero _)
  | 0, k, fu + 1, acc, σ, hk, hlk, ha, _, h => by
    refine ⟨σ, ?_, Fr.rf _ _⟩
    have c : hi < k := by omega
    have s1 := pk_sub hlo
    rw [odN]
    simp (disch := omega) only [fc11_odds_34, nI_ltI, c, if_true, if_false, ↓reduceIte, and_true, true_and, and_false, false_and, not_true_eq_false, not_false_eq_true, and_self, y1000000, y1, pk_mul, s1, nI_add, dv_n, bnd]
  | m + 1, k, fu + 1, acc, σ, hk, hlk, ha, h0, h => by
    obtain ⟨σ1, l1, l2, l3⟩ := look19 h (rain := k) (by omega)
    have h1 := h.fr l2
    have b6 := h.2.2.1.1
    have hb := bitsY_lt (q := q) (r := r) h.2.2.1 k
    have hbit := bit_at _ hb f (by omega)
    have h01 := bt_01 (bitsY P q r k) f
    obtain ⟨σ2, z1, z2⟩ := odds34_c hf hlo hhi m (k + 1) fu (acc + bt (bitsY P q r k) f) σ1 (by omega) (by omega) (by omega) (by omega) h1
    refine ⟨σ2, ?_, l2.tr z2⟩
    have c : ¬ hi < k := by omega
    rw [odN, ← z1]
    have x1 : fc11_odds_34 N (fu + 1) (some 0) (nI f) (nI lo) (nI hi) (nI acc) (nI k) σ = fc11_odds_34 N fu (some 0) (nI f) (nI lo) (nI hi) (nI acc + ((nI (bitsY P q r k) >>> (nI f &&& 31)) &&& (1 : Int32))) (nI (k + 1)) σ1 := by
      simp (disch := omega) only [fc11_odds_34, nI_ltI, c, if_true, if_false, ↓reduceIte, and_true, true_and, and_false, false_and, not_true_eq_false, not_false_eq_true, and_self, qR, qI, PK h.1, bnd, l1, PK h1.1, l3.2.2.1, nI_1]
    rw [x1, hbit, nI_add]
    rfl
theorem odds_c (h : Qc N σ P r q b) {f lo hi : Nat} (hf : f < pn P) (hlo : lo ≤ hi) (hhi : hi ≤ 99) : ∃ σ' : Me, fc11_odds N 0 (nI f) (nI lo) (nI hi) σ = some (nI (odN P q r f (hi + 1 - lo) lo 0 * 1000000 / (hi - lo + 1)), σ') ∧ Fr (cX b) σ σ' := by
  have h9 := h.2.2.2.2.2.2.2.2
  obtain ⟨σ', z1, z2⟩ := odds34_c (N := N) (P := P) (r := r) (q := q) (b := b) hf hlo hhi (hi + 1 - lo) lo N 0 σ (by omega) (by omega) (by omega) (by omega) h
  refine ⟨σ', ?_, z2⟩
  rw [← z1]
  have b6 := h.2.2.1.1
  have c : ¬ (1 : Int32) = 0 := by decide
  have c1 := nI_pos (n := lo) (by omega)
  have c2 : ¬ hi < lo := by omega
  simp (disch := omega) only [fc11_odds, qR, PK h.1, bnd, has_y h.1 (.inl rfl) h.2.1.1 b6 hf, c, c1, nI_ltI, c2, y99, nI_leI, hhi, if_true, if_false, ↓reduceIte, and_true, true_and, and_false, false_and, not_true_eq_false, not_false_eq_true, and_self]
  rfl
theorem i_pos {x : Int32} (h : ¬ x < 0) : 0 ≤ x.toInt := by
  rw [i_toInt_lt] at h
  have : (0 : Int32).toInt = 0 := rfl
  omega
theorem odds_n (h : Sh σ) {n : Nat} (hn : mi σ 19 5 = nI n) (h6 : n ≤ 6) {x y z : Int32} (hx : ¬ ∃ f lo hi : Nat, f < n ∧ lo ≤ hi ∧ hi < 100 ∧ x = nI f ∧ y = nI lo ∧ z = nI hi) : fc11_odds N 0 x y z σ = some (-1, σ) := by
  have c : ¬ (1 : Int32) = 0 := by decide
  rcases nix x (n := n) (by omega) with q | ⟨i, hi, rfl⟩
  · simp (disch := omega) only [fc11_odds, qR, PK h, bnd, has_n h (.inl rfl) hn q, if_true, if_false, ↓reduceIte, and_true, true_and, and_false, false_and, not_true_eq_false, not_false_eq_true, and_self]
  · by_cases c1 : y < 0
    · simp (disch := omega) only [fc11_odds, qR, PK h, bnd, has_y h (.inl rfl) hn h6 hi, c, c1, if_true, if_false, ↓reduceIte, and_true, true_and, and_false, false_and, not_true_eq_false, not_false_eq_true, and_self]
    · by_cases c2 : z < y
      · simp (disch := omega) only [fc11_odds, qR, PK h, bnd, has_y h (.inl rfl) hn h6 hi, c, c1, c2, if_true, if_false, ↓reduceIte, and_true, true_and, and_false, false_and, not_true_eq_false, not_false_eq_true, and_self]
      · by_cases c3 : z ≤ 99
        · exfalso
          obtain ⟨lo, hl, rfl⟩ := nI_of c1
          have c4 : ¬ z < 0 := by
            rw [i_toInt_lt] at c2 ⊢
            have := i_pos c1
            have e0 : (0 : Int32).toInt = 0 := rfl
            omega
          obtain ⟨hi', hh, rfl⟩ := nI_of c4
          rw [nI_ltI hh hl] at c2
          rw [y99, nI_leI hh (by decide)] at c3
          exact hx ⟨i, lo, hi', hi, by omega, by omega, rfl, rfl, rfl⟩
        · simp (disch := omega) only [fc11_odds, qR, PK h, bnd, has_y h (.inl rfl) hn h6 hi, c, c1, c2, c3, if_true, if_false, ↓reduceIte, and_true, true_and, and_false, false_and, not_true_eq_false, not_false_eq_true, and_self]
end QS
