/-! questions to the class: the least that has to be forgiven -/
def rOwe (r : Rw) (f x : Nat) : Rw := (fun k => if k = f then x else ro r k, r.2)
theorem ro_owe (r : Rw) (f x k : Nat) : ro (rOwe r f x) k = if k = f then x else ro r k := rfl
theorem rOwe_self (r : Rw) (f : Nat) : rOwe r f (ro r f) = r := by
  unfold rOwe
  have : (fun k => if k = f then ro r f else ro r k) = ro r := by
    funext k
    by_cases e : k = f
    · subst e; rw [if_pos rfl]
    · rw [if_neg e]
  rw [this]
theorem RwB.owe {n : Nat} {r : Rw} (h : RwB n r) {f x : Nat} (hx : x ≤ 999) : RwB n (rOwe r f x) := by
  refine ⟨h.1, h.2.1, fun k hk => ⟨?_, (h.2.2 k hk).2⟩⟩
  rw [ro_owe]
  split
  · exact hx
  · exact (h.2.2 k hk).1
theorem gN_owe {P : Pl} {r : Rw} {f x y k : Nat} (h : k ≠ f) : gN P (rOwe r f x) k = gN P (rOwe r f y) k := by
  unfold gN
  rw [ro_owe, ro_owe, if_neg h, if_neg h]
theorem dN_owe {P : Pl} {q : PF} {r : Rw} {s f x y k : Nat} (h : k ≠ f) : dN P q (rOwe r f x) s k = dN P q (rOwe r f y) s k := by
  unfold dN
  rw [gN_owe (y := y) h]
  rfl
/-- the sky has weighed a land with a share -/
def SkY (σ : Me) (P : Pl) (q : PF) (r : Rw) (s : Nat) : Prop := ∃ d : Nat → Nat, SkC σ (gN P r) d (pn P) ∧ mi σ 31 7 = nI s ∧ ∀ k, k < pn P → Deq (d k) (dN P q r s k) ∧ d k ≤ 1000
theorem SkY.fr {X : Nat → Nat → Bool} {σ σ' : Me} {P : Pl} {q : PF} {r : Rw} {s : Nat} (h : SkY σ P q r s) (k : Fr X σ σ') (h1 : ∀ j, X 31 j = false ∧ X 32 j = false ∧ X 33 j = false) : SkY σ' P q r s := by
  obtain ⟨d, a1, a2, a3⟩ := h
  exact ⟨d, a1.fr k (h1 _).1 (fun j => (h1 j).2), by rw [k.i (h1 _).1]; exact a2, a3⟩
section QS
variable {N : Nat} {σ : Me} {P : Pl} {r : Rw} {q : PF} {b : Nat}
theorem set26 {f x y : Nat} (hL : LdC σ 25 P (rOwe r f y)) : LdC (setI σ 26 f (nI x)) 25 P (rOwe r f x) := by
  obtain ⟨l5, l6, l7, l8, l9, lf⟩ := hL
  refine ⟨l5, l6, l7, l8, l9, fun k hk => ?_⟩
  obtain ⟨g1, g2, g3, g4, g5⟩ := lf k hk
  refine ⟨?_, g2, g3, g4, g5⟩
  rw [ro_owe] at g1 ⊢
  by_cases e : k = f
  · subst e; rw [if_pos rfl, mi_eq]
  · rw [if_neg e, mi_ne _ _ (by omega)]
    rw [if_neg e] at g1
    exact g1
theorem reweigh_c (h : Qc N σ P r q b) {f x y s : Nat} (hf : f < pn P) (hx : x ≤ 999) (hs : s ≤ 49) (hL : LdC σ 25 P (rOwe r f x)) (hS : SkY σ P q (rOwe r f y) s) :
    ∃ σ' : Me, fc9_weigh N 31 (some 25) (nI f) σ = some ((), σ') ∧ Fr (gX b) σ σ' ∧ SkY σ' P q (rOwe r f x) s ∧ LdC σ' 25 P (rOwe r f x) := by
  obtain ⟨h1, h2, h3, h4, h5, h6, h7, h8, h9⟩ := h
  obtain ⟨d, a1, a2, a3⟩ := hS
  obtain ⟨σ', d', w1, w2, w3, w4, w5, w6⟩ := weigh_c (N := N) h1 (.inr rfl) hL h3 (h4.owe hx) h7.c hf a2 hs h8
  have hw : ∀ k, k ≠ f → wS b f 32 k = false ∧ wS b f 33 k = false := fun k hk => by simp [wS, hk]
  refine ⟨σ', w1, w2.mono (fun a j e => wS_s (sS_g e)), ⟨fun k => if k = f then d' else d k, ⟨by rw [w2.i rfl]; exact a1.1, fun k hk => ?_⟩, by rw [w2.i rfl]; exact a2, fun k hk => ?_⟩, hL.fr (w2.mono (fun a j e => wS_s e)) (lo_s (.inr rfl))⟩
  · by_cases e : k = f
    · subst e
      show _ ∧ _ = nI (if k = k then d' else d k)
      rw [if_pos rfl]
      exact ⟨w3, w4⟩
    · show _ ∧ _ = nI (if k = f then d' else d k)
      rw [if_neg e, w2.i (hw k e).1, w2.i (hw k e).2, gN_owe (y := y) e]
      exact a1.2 k hk
  · by_cases e : k = f
    · subst e
      show Deq (if k = k then d' else d k) _ ∧ (if k = k then d' else d k) ≤ 1000
      rw [if_pos rfl]
      exact ⟨w5, w6⟩
    · show Deq (if k = f then d' else d k) _ ∧ (if k = f then d' else d k) ≤ 1000
      rw [if_neg e, dN_owe (y := y) e]
      exact a3 k hk
/-- what falls, out of what was weighed -/
theorem fallY_c (h : Sh σ) (hB : PlB P) {rain s f : Nat} (hs : s = rain / pn P) (hS : SkY σ P q r s) (hf : f < pn P) (hr : rain ≤ 99) (hN : 10 ≤ N) : fc9_fallOn N 31 (nI f) (nI rain) σ = some (nI (falY P q r rain f), σ) := by
  obtain ⟨d, a1, a2, a3⟩ := hS
  rw [fallOn_c h a1 hB.1 hf (fun f _ => g_le P r f) (fun f hf => (a3 f hf).2) hr hN]
  subst hs
  rw [fal_eq (fun k hk => (a3 k hk).1) hr hf]
  rfl
def dnA (F : Nat → Nat) (D : Nat) : Nat → Nat → Bool
  | 0, _ => false
  | m + 1, k => if F k < D then dnA F D m (k + 1) else true
theorem dnA_0 (F : Nat → Nat) (D : Nat) : ∀ (m k : Nat), dnA F D m k = false ↔ ∀ j, k ≤ j → j < k + m → F j < D
  | 0, k => by
    constructor
    · intro _ j h1 h2; omega
    · intro _; rfl
  | m + 1, k => by
    rw [dnA]
    by_cases c : F k < D
    · rw [if_pos c, dnA_0 F D m (k + 1)]
      constructor
      · intro h j h1 h2
        by_cases e : j = k
        · subst e; exact c
        · exact h j (by omega) (by omega)
      · intro h j h1 h2; exact h j (by omega) (by omega)
    · rw [if_neg c]
      constructor
      · intro h; cases h
      · intro h; exact absurd (h k (by omega) (by omega)) c
theorem bits_0 (F : Nat → Nat) : ∀ n, n ≤ 6 → (bitsF P F n = 0 ↔ ∀ j, j < n → F j < pdr P)
  | 0, _ => by
    constructor
    · intro _ j hj; omega
    · intro _; rfl
  | n + 1, hn => by
    have ih := bits_0 F n (by omega)
    rw [bitsF]
    by_cases c : F n < pdr P
    · rw [if_pos c, ih]
      constructor
      · intro h j hj
        by_cases e : j = n
        · subst e; exact c
        · exact h j (by omega)
      · intro h j hj; exact h j (by omega)
    · rw [if_neg c]
      constructor
      · intro h
        have h1 := bit_has (bitsF P F n) (bits_lt P F n (by omega)) n (by omega) n (by omega)
        rw [if_pos rfl, h] at h1
        simp at h1
      · intro h; exact absurd (h n (by omega)) c
theorem dry_c (h : Sh σ) (hB : PlB P) {rain s : Nat} (hs : s = rain / pn P) (hS : SkY σ P q r s) (hD : mi σ 25 7 = nI (pdr P)) (hr : rain ≤ 99) (hN : 10 ≤ N) : fc9_drownsAny N 31 (some 25) (nI rain) σ = some (bI (decide (bitsY P q r rain ≠ 0)), σ) := by
  have b6 := hB.1
  have hD9 := hB.2.2.2.1
  have h6 : mi σ 31 6 = nI (pn P) := by obtain ⟨d, a1, -⟩ := hS; exact a1.1
  have key : ∀ (m k fu : Nat), k + m = pn P → m < fu → fc9_drownsAny_2 N fu (some 31) (some 25) (nI rain) (nI k) σ = some (bI (dnA (falY P q r rain) (pdr P) m k), σ) := by
    intro m
    induction m with
    | zero =>
      intro k fu hk hfu
      obtain ⟨fu, rfl⟩ : ∃ f, fu = f + 1 := ⟨fu - 1, by omega⟩
      have c : pn P ≤ k := by omega
      simp (disch := omega) only [fc9_drownsAny_2, qI, PK h, bnd, h6, nI_leI, c, if_true, if_false, ↓reduceIte, and_true, true_and, and_false, false_and, not_true_eq_false, not_false_eq_true, and_self, retZ0]
      rfl
    | succ m ih =>
      intro k fu hk hfu
      obtain ⟨fu, rfl⟩ : ∃ f, fu = f + 1 := ⟨fu - 1, by omega⟩
      have c : ¬ pn P ≤ k := by omega
      have ef := fallY_c (N := N) h hB hs hS (show k < pn P by omega) hr hN
      have hle := falY_le P q r rain k
      by_cases c2 : falY P q r rain k < pdr P
      · rw [dnA, if_pos c2, ← ih (k + 1) fu (by omega) (by omega)]
        simp (disch := omega) only [fc9_drownsAny_2, qI, PK h, bnd, h6, nI_leI, nI_ltI, c, if_true, if_false, ↓reduceIte, and_true, true_and, and_false, false_and, not_true_eq_false, not_false_eq_true, and_self, ef, hD, c2, nI_1]
      · rw [dnA, if_neg c2]
        simp (disch := omega) only [fc9_drownsAny_2, qI, PK h, bnd, h6, nI_leI, nI_ltI, c, if_true, if_false, ↓reduceIte, and_true, true_and, and_false, false_and, not_true_eq_false, not_false_eq_true, and_self, ef, hD, c2, retZ1]
        rfl
  have e : dnA (falY P q r rain) (pdr P) (pn P) 0 = decide (bitsY P q r rain ≠ 0) := by
    have h1 := dnA_0 (falY P q r rain) (pdr P) (pn P) 0
    have h2 := bits_0 (P := P) (falY P q r rain) (pn P) b6
    by_cases c : bitsY P q r rain = 0
    · have h3 := h2.mp c
      rw [h1.mpr (fun j _ hj => h3 j (by omega))]
      simp [c]
    · cases hd : dnA (falY P q r rain) (pdr P) (pn P) 0 with
      | true => simp [c]
      | false =>
        have h3 := h1.mp hd
        exact absurd (h2.mpr (fun j hj => h3 j (by omega) (by omega))) c
  rw [← e]
  exact key (pn P) 0 N (by omega) (by omega)
/-- nobody drowns when that much less is owed to a field -/
def lsZ (P : Pl) (q : PF) (r : Rw) (rain f n : Nat) : Prop := bitsY P q (rOwe r f (ro r f - n)) rain = 0
/-- the least of one field, below a bound -/
def LoR (P : Pl) (q : PF) (r : Rw) (rain f B L : Nat) : Prop := (L = B ∧ ∀ n, 1 ≤ n → n < B → n ≤ ro r f → ¬ lsZ P q r rain f n) ∨ (L < B ∧ 1 ≤ L ∧ L ≤ ro r f ∧ lsZ P q r rain f L ∧ ∀ n, 1 ≤ n → n < L → ¬ lsZ P q r rain f n)
theorem leastOf87_c (h0 : Qc N σ P r q b) {f s y : Nat} (hf : f < pn P) (hs : s ≤ 49) {τ : Me} (i1 : Fr (gX b) σ τ) (hL : LdC τ 25 P (rOwe r f y)) (hS : SkY τ P q (rOwe r f y) s) (l4 : Int32) :
    ∃ σ' : Me, fc11_leastOf_87 N (some 0) (nI f) l4 τ = some (l4, σ') ∧ Fr (gX b) σ σ' ∧ LdC σ' 25 P r ∧ SkY σ' P q r s := by
  have hτ := h0.fr i1.gc
  have b6 := h0.2.2.1.1
  have hR := (h0.2.2.2.1.2.2 f hf).1
  have f1 : Fr (gX b) τ (setI τ 26 f (nI (ro r f))) := fr_I rfl (Fr.rf _ _)
  have h1 := hτ.fr f1.gc
  obtain ⟨σ', w1, w2, w3, w4⟩ := reweigh_c h1 hf hR hs (set26 hL) (hS.fr (X := fun a _ => a == 26) (fr_I rfl (Fr.rf _ _)) (fun _ => ⟨rfl, rfl, rfl⟩))
  rw [rOwe_self] at w3 w4
  refine ⟨σ', ?_, (i1.tr f1).tr w2, w4, w3⟩
  have e := (hτ.2.1.2.2.2.2.2 f hf).1
  simp (disch := omega) only [fc11_leastOf_87, qR, PK hτ.1, bnd, ldI_lo, A20 hτ.1, A26 hτ.1, nI_clamp, e, stI, dr_setI, mr_setI, w1]
theorem leastOf_c (h0 : Qc N σ P r q b) {f rain B : Nat} (hf : f < pn P) (hr : rain ≤ 99) (hB1 : 1 ≤ B) (hB2 : B ≤ 1000) (hN : 1100 ≤ N) (hL : LdC σ 25 P r) (hS : SkY σ P q r (rain / pn P)) :
    ∃ (σ' : Me) (L : Nat), fc11_leastOf N 0 (nI f) (nI rain) (nI B) σ = some (nI L, σ') ∧ Fr (gX b) σ σ' ∧ LdC σ' 25 P r ∧ SkY σ' P q r (rain / pn P) ∧ LoR P q r rain f B L := by
  have b6 := h0.2.2.1.1
  have b2 := h0.2.2.2.2.1
  have hP := h0.2.2.1
  have hR := (h0.2.2.2.1.2.2 f hf).1
  have hs : rain / pn P ≤ 49 := by
    have : rain / pn P ≤ rain / 2 := Nat.div_le_div_left b2 (by decide)
    omega
  have x1 : fc11_leastOf N 0 (nI f) (nI rain) (nI B) σ = fc11_leastOf_6 N N (some 0) (nI f) (nI rain) (nI B) (nI B) (nI 1) σ := rfl
  rw [x1]
  refine lp (fun fu k τ => fc11_leastOf_6 N fu (some 0) (nI f) (nI rain) (nI B) (nI B) (nI k) τ) (fun k τ => 1 ≤ k ∧ Fr (gX b) σ τ ∧ (∃ y, LdC τ 25 P (rOwe r f y) ∧ SkY τ P q (rOwe r f y) (rain / pn P)) ∧ ∀ n, 1 ≤ n → n < k → ¬ lsZ P q r rain f n) (fun o => ∃ (σ' : Me) (L : Nat), o = some (nI L, σ') ∧ Fr (gX b) σ σ' ∧ LdC σ' 25 P r ∧ SkY σ' P q r (rain / pn P) ∧ LoR P q r rain f B L) (min (ro r f + 1) B) ?_ ?_ (min (ro r f + 1) B - 1) 1 N σ (by omega) (by omega) ⟨by omega, Fr.rf _ _, ⟨ro r f, by rw [rOwe_self]; exact hL, by rw [rOwe_self]; exact hS⟩, fun n h1 h2 => by omega⟩
  · rintro fu τ ⟨i0, i1, ⟨y, i2, i3⟩, i4⟩
    have hτ := h0.fr i1.gc
    have e := (hτ.2.1.2.2.2.2.2 f hf).1
    obtain ⟨σ', z1, z2, z3, z4⟩ := leastOf87_c h0 hf hs i1 i2 i3 (nI B)
    refine ⟨σ', B, ?_, z2, z3, z4, .inl ⟨rfl, fun n h1 h2 h3 => i4 n h1 (by omega)⟩⟩
    rw [← z1]
    by_cases c1 : ro r f < min (ro r f + 1) B
    · simp (disch := omega) only [fc11_leastOf_6, qR, PK hτ.1, bnd, ldI_lo, A20 hτ.1, nI_clamp, e, nI_ltI, c1, if_true, if_false, ↓reduceIte, and_true, true_and, and_false, false_and, not_true_eq_false, not_false_eq_true, and_self]
    · have c2 : B ≤ min (ro r f + 1) B := by omega
      simp (disch := omega) only [fc11_leastOf_6, qR, PK hτ.1, bnd, ldI_lo, A20 hτ.1, nI_clamp, e, nI_ltI, nI_leI, c1, c2, if_true, if_false, ↓reduceIte, and_true, true_and, and_false, false_and, not_true_eq_false, not_false_eq_true, and_self]
  · rintro fu k τ hk ⟨i0, i1, ⟨y, i2, i3⟩, i4⟩
    have hτ := h0.fr i1.gc
    have e := (hτ.2.1.2.2.2.2.2 f hf).1
    have c1 : ¬ ro r f < k := by omega
    have c2 : ¬ B ≤ k := by omega
    have s1 := pk_sub (show k ≤ ro r f by omega)
    have f1 : Fr (gX b) τ (setI τ 26 f (nI (ro r f - k))) := fr_I rfl (Fr.rf _ _)
    have h1 := hτ.fr f1.gc
    obtain ⟨τ1, w1, w2, w3, w4⟩ := reweigh_c h1 hf (show ro r f - k ≤ 999 by omega) hs (set26 i2) (i3.fr (X := fun a _ => a == 26) (fr_I rfl (Fr.rf _ _)) (fun _ => ⟨rfl, rfl, rfl⟩))
    have h2 := h1.fr w2.gc
    have dd := dry_c (N := N) h2.1 hP rfl w3 w4.2.2.1 hr (by omega)
    have i1' := (i1.tr f1).tr w2
    by_cases hz : lsZ P q r rain f k
    · have ez : decide (bitsY P q (rOwe r f (ro r f - k)) rain ≠ 0) = false := by simp; exact hz
      rw [ez, bI_f] at dd
      obtain ⟨σ', z1, z2, z3, z4⟩ := leastOf87_c h0 hf hs i1' w4 w3 (nI k)
      refine .inr ⟨σ', k, ?_, z2, z3, z4, .inr ⟨by omega, i0, by omega, hz, i4⟩⟩
      rw [← z1]
      simp (disch := omega) only [fc11_leastOf_6, qR, PK hτ.1, bnd, ldI_lo, A20 hτ.1, A26 hτ.1, nI_clamp, e, nI_ltI, nI_leI, c1, c2, if_true, if_false, ↓reduceIte, and_true, true_and, and_false, false_and, not_true_eq_false, not_false_eq_true, and_self, s1, stI, dr_setI, mr_setI, w1, PK h2.1, dd]
    · have ez : decide (bitsY P q (rOwe r f (ro r f - k)) rain ≠ 0) = true := by simp; exact hz
      rw [ez, bI_t] at dd
      refine .inl ⟨τ1, ?_, by omega, i1', ⟨_, w4, w3⟩, fun n h3 h4 => ?_⟩
      · have c3 : ¬ (1 : Int32) = 0 := by decide
        simp (disch := omega) only [fc11_leastOf_6, qR, PK hτ.1, bnd, ldI_lo, A20 hτ.1, A26 hτ.1, nI_clamp, e, nI_ltI, nI_leI, c1, c2, c3, if_true, if_false, ↓reduceIte, and_true, true_and, and_false, false_and, not_true_eq_false, not_false_eq_true, and_self, s1, stI, dr_setI, mr_setI, w1, PK h2.1, dd, nI_1]
      · by_cases e5 : n = k
        · subst e5; exact hz
        · exact i4 n h3 (by omega)
/-- the least there is: how much, of whom -/
def LsR (P : Pl) (q : PF) (r : Rw) (rain : Nat) : Option (Nat × Nat) → Prop
  | none => ∀ f n, f < pn P → n ≤ ro r f → ¬ lsZ P q r rain f n
  | some p => p.2 < pn P ∧ p.1 ≤ ro r p.2 ∧ lsZ P q r rain p.2 p.1 ∧ ∀ f n, f < pn P → n ≤ ro r f → lsZ P q r rain f n → p.1 < n ∨ (p.1 = n ∧ p.2 ≤ f)
theorem LsR_uni {rain : Nat} {o o' : Option (Nat × Nat)} (h : LsR P q r rain o) (h' : LsR P q r rain o') : o = o' := by
  cases o with
  | none =>
    cases o' with
    | none => rfl
    | some p => exact absurd h'.2.2.1 (h p.2 p.1 h'.1 h'.2.1)
  | some p =>
    cases o' with
    | none => exact absurd h.2.2.1 (h' p.2 p.1 h.1 h.2.1)
    | some p' =>
      have h1 := h.2.2.2 p'.2 p'.1 h'.1 h'.2.1 h'.2.2.1
      have h2 := h'.2.2.2 p.2 p.1 h.1 h.2.1 h.2.2.1
      have e1 : p.1 = p'.1 := by omega
      have e2 : p.2 = p'.2 := by omega
      rw [Prod.ext e1 e2]
def lsA (w : Nat) : Option (Nat × Nat) → Int32
  | none => -1
  | some p => if w = 0 then nI p.2 else nI p.1
def LsI (P : Pl) (q : PF) (r : Rw) (rain k : Nat) (fo : Option Nat) (L : Nat) : Prop := (fo = none ∧ L = 1000 ∧ ∀ f n, f < k → 1 ≤ n → n ≤ ro r f → ¬ lsZ P q r rain f n) ∨ (∃ f, f < k ∧ fo = some f ∧ 1 ≤ L ∧ L ≤ ro r f ∧ lsZ P q r rain f L ∧ ∀ f' n, f' < k → 1 ≤ n → n ≤ ro r f' → lsZ P q r rain f' n → L < n ∨ (L = n ∧ f ≤ f'))
theorem LsI_keep {rain k : Nat} {fo : Option Nat} {L : Nat} (hk : ro r k ≤ 999) (h : LsI P q r rain k fo L) (h2 : LoR P q r rain k L L) : LsI P q r rain (k + 1) fo L := by
  have hlo : ∀ n, 1 ≤ n → n < L → n ≤ ro r k → ¬ lsZ P q r rain k n := by
    rcases h2 with ⟨-, h3⟩ | ⟨h3, -⟩
    · exact h3
    · omega
  rcases h with ⟨h3, h4, h5⟩ | ⟨f, h3, h4, h5, h6, h7, h8⟩
  · refine .inl ⟨h3, h4, fun f n hf h1 hn => ?_⟩
    by_cases e : f = k
    · subst e; exact hlo n h1 (by omega) hn
    · exact h5 f n (by omega) h1 hn
  · refine .inr ⟨f, by omega, h4, h5, h6, h7, fun f' n hf h1 hn hz => ?_⟩
    by_cases e : f' = k
    · subst e
      by_cases c : n < L
      · exact absurd hz (hlo n h1 c hn)
      · omega
    · exact h8 f' n (by omega) h1 hn hz
theorem LsI_new {rain k : Nat} {fo : Option Nat} {L L' : Nat} (h : LsI P q r rain k fo L) (h2 : LoR P q r rain k L L') (h3 : L' < L) (hro : ∀ f, f < k → ro r f ≤ 999) : LsI P q r rain (k + 1) (some k) L' := by
  obtain ⟨a1, a2, a3, a4⟩ : 1 ≤ L' ∧ L' ≤ ro r k ∧ lsZ P q r rain k L' ∧ ∀ n, 1 ≤ n → n < L' → ¬ lsZ P q r rain k n := by
    rcases h2 with ⟨h4, -⟩ | ⟨-, h4⟩
    · omega
    · exact h4
  refine .inr ⟨k, by omega, rfl, a1, a2, a3, fun f' n hf h1 hn hz => ?_⟩
  by_cases e : f' = k
  · subst e
    by_cases c : n < L'
    · exact absurd hz (a4 n h1 c)
    · omega
  · rcases h with ⟨-, h5, h6⟩ | ⟨f, -, -, -, -, -, h8⟩
    · exact absurd hz (h6 f' n (by omega) h1 hn)
    · have := h8 f' n (by omega) h1 hn hz
      omega
theorem LsI_end {rain : Nat} {fo : Option Nat} {L : Nat} (h : LsI P q r rain (pn P) fo L) (h0 : bitsY P q r rain ≠ 0) : LsR P q r rain (fo.map fun f => (L, f)) := by
  have hz0 : ∀ f, ¬ lsZ P q r rain f 0 := fun f => by unfold lsZ; rw [Nat.sub_zero, rOwe_self]; exact h0
  rcases h with ⟨rfl, h4, h5⟩ | ⟨f, h3, rfl, h5, h6, h7, h8⟩
  · intro f n hf hn
    by_cases e : n = 0
    · subst e; exact hz0 f
    · exact h5 f n hf (by omega) hn
  · refine ⟨h3, h6, h7, fun f' n hf hn hz => ?_⟩
    by_cases e : n = 0
    · subst e; exact absurd hz (hz0 f')
    · exact h8 f' n hf (by omega) hn hz
theorem least64_c (h0 : Qc N σ P r q b) {rain w : Nat} (hr : rain ≤ 99) (hw : w ≤ 1) (hN : 1100 ≤ N) (hb0 : bitsY P q r rain ≠ 0) : ∀ (m k fu : Nat) (fo : Option Nat) (L : Nat) (τ : Me), k + m = pn P → m < fu → Fr (cX b) σ τ → LdC τ 25 P r → SkY τ P q r (rain / pn P) → LsI P q r rain k fo L →
    ∃ (σ' : Me) (o : Option (Nat × Nat)), fc11_least_64 N fu (some 0) (nI rain) (nI w) (oI fo) (nI L) (nI k) τ = some (lsA w o, σ') ∧ Fr (cX b) σ σ' ∧ LsR P q r rain o
  | _, _, 0, _, _, _, _, h0, _, _, _, _ => absurd h0 (Nat.not_lt_zero _)
  | 0, k, fu + 1, fo, L, τ, hk, _, i1, i2, i3, i4 => by
    have hτ := h0.fr i1
    have b6 := h0.2.2.1.1
    have e : k = pn P := by omega
    subst e
    refine ⟨τ, fo.map fun f => (L, f), ?_, i1, LsI_end i4 hb0⟩
    have cc : pn P ≤ pn P := Nat.le_refl _
    cases fo with
    | none =>
      have e1 : oI none = -1 := rfl
      simp (disch := omega) only [fc11_least_64, qR, qI, PK hτ.1, bnd, hτ.2.1.1, nI_leI, cc, e1, if_true, if_false, ↓reduceIte, and_true, true_and, and_false, false_and, not_true_eq_false, not_false_eq_true, and_self]
      rfl
    | some f =>
      have hf : f < pn P := by
        rcases i4 with ⟨h1, -⟩ | ⟨f', h1, h2, -⟩
        · cases h1
        · cases h2; exact h1
      have e1 : ¬ oI (some f) = -1 := nI_m1 (b := f) (by omega)
      by_cases hw0 : w = 0
      · subst hw0
        simp (disch := omega) only [fc11_least_64, qR, qI, PK hτ.1, bnd, hτ.2.1.1, nI_leI, cc, e1, nI_0, if_true, if_false, ↓reduceIte, and_true, true_and, and_false, false_and, not_true_eq_false, not_false_eq_true, and_self]
        rfl
      · have hw1 : ¬ nI w = 0 := nI_ne0 (by omega) (by omega)
        simp (disch := omega) only [fc11_least_64, qR, qI, PK hτ.1, bnd, hτ.2.1.1, nI_leI, cc, e1, hw1, if_true, if_false, ↓reduceIte, and_true, true_and, and_false, false_and, not_true_eq_false, not_false_eq_true, and_self, lsA, Option.map_some, hw0]
  | m + 1, k, fu + 1, fo, L, τ, hk, hfu, i1, i2, i3, i4 => by
    have hτ := h0.fr i1
    have b6 := h0.2.2.1.1
    have hRB := h0.2.2.2.1
    have cc : ¬ pn P ≤ k := by omega
    have hL : 1 ≤ L ∧ L ≤ 1000 := by
      rcases i4 with ⟨-, h1, -⟩ | ⟨f, h1, -, h2, h3, -⟩
      · omega
      · have := (hRB.2.2 f (by omega)).1; omega
    obtain ⟨τ1, L', w1, w2, w3, w4, w5⟩ := leastOf_c hτ (show k < pn P by omega) hr hL.1 hL.2 hN i2 i3
    have i1' := i1.tr w2.gc
    have hL' : L' ≤ L := by
      rcases w5 with ⟨h1, -⟩ | ⟨h1, -⟩ <;> omega
    by_cases c : L ≤ L'
    · have e : L' = L := by omega
      subst e
      obtain ⟨σ', o, z1, z2, z3⟩ := least64_c h0 hr hw hN hb0 m (k + 1) fu fo L' τ1 (by omega) (by omega) i1' w3 w4 (LsI_keep (hRB.2.2 k (by omega)).1 i4 w5)
      refine ⟨σ', o, ?_, z2, z3⟩
      rw [← z1]
      simp (disch := omega) only [fc11_least_64, fc11_least_101, qR, qI, PK hτ.1, bnd, hτ.2.1.1, nI_leI, cc, if_true, if_false, ↓reduceIte, and_true, true_and, and_false, false_and, not_true_eq_false, not_false_eq_true, and_self, w1, c, nI_1]
    · obtain ⟨σ', o, z1, z2, z3⟩ := least64_c h0 hr hw hN hb0 m (k + 1) fu (some k) L' τ1 (by omega) (by omega) i1' w3 w4 (LsI_new i4 w5 (by omega) (fun f hf => (hRB.2.2 f (by omega)).1))
      refine ⟨σ', o, ?_, z2, z3⟩
      rw [← z1]
      simp (disch := omega) only [fc11_least_64, fc11_least_101, qR, qI, PK hτ.1, bnd, hτ.2.1.1, nI_leI, cc, if_true, if_false, ↓reduceIte, and_true, true_and, and_false, false_and, not_true_eq_false, not_false_eq_true, and_self, w1, c, nI_1]
      rfl
theorem look19_k (h : Qc N σ P r q b) {rain : Nat} (hr : rain ≤ 99) : ∃ σ' : Me, fc9_look N 31 (some 19) (nI rain) σ = some ((), σ') ∧ Fr (gX b) σ σ' ∧ LkC σ' P q r rain ∧ SkY σ' P q r (rain / pn P) := by
  obtain ⟨h, hL, hP, hR, h2, hrt, hp, hq, hN⟩ := h
  obtain ⟨σ1, d, w1, w2, w3, w4, w5⟩ := weighAll_c (N := N) (rain := rain) h (.inl rfl) hL hP hR hp.c hq h2 hr (by omega)
  have w2s : Fr (sS b) σ σ1 := w2.mono (fun a j e => aS_s e)
  have h1 := w2s.sh (sS_f b) h
  have hF : Fr tS σ1 (setI (setI σ1 31 8 (nI 0)) 31 9 (nI 0)) := ((Fr.rf _ σ1).setI _ rfl).setI _ rfl
  have hsk : SkC σ1 (gN P r) d (pn P) := ⟨w3, fun f hf => ⟨(w5 f hf).1, (w5 f hf).2.1⟩⟩
  obtain ⟨σ2, z1, z2, z3, z4, z5⟩ := look18_c (N := N) (F := falY P q r rain) (.inl rfl) hP hR (fun f _ => g_le P r f) (fun f hf => (w5 f hf).2.2.2) hr (by omega) (fun f hf => fal_eq (fun k hk => (w5 k hk).2.2.1) hr hf) (fun f => Nat.le_trans (falY_le _ _ _ _ _) hr) (pn P) 0 N _ (hF.sh tS_f h1) ((hL.fr w2s (lo_s (.inl rfl))).fr hF (lo_t (.inl rfl))) (hsk.fr hF rfl (fun _ => ⟨rfl, rfl⟩)) (by omega) (by have := hP.1; omega)
    (by simp (disch := omega) only [mi_ne, mi_eq]; rfl) (by rw [mi_eq]; rfl) (fun f hf => absurd hf (Nat.not_lt_zero _))
  have z2s := hF.tr z2
  refine ⟨σ2, ?_, (w2s.tr (z2s.mono (fun a j e => tS_s e))).mono (fun a j e => sS_g e), ⟨?_, ?_, z3, z4, fun f hf => ⟨?_, z5 f hf⟩⟩, d, hsk.fr z2s rfl (fun _ => ⟨rfl, rfl⟩), by rw [z2s.i rfl]; exact w4, fun k hk => (w5 k hk).2.2⟩
  · simp (disch := omega) only [fc9_look, qI, qL, qR, pI, pL, pR, ldI_lo, ldB_lo, ldZ, ldL, stI, stB, stZ, stL, dr_setI, dr_setL, dr_setR, arr_setI, arr_setL, arr_setR, aLn_setI, aLn_setL, aLn_setR, mr_setI, mr_setL, mi_setL, mi_setR, ml_setI, ml_setR, mi_eq, mi_ne, ml_eq, ml_ne, mr_eq, mr_ne, bnd, nI_clamp, PS h, w1, PS h1, y0]
    exact z1
  · rw [z2s.i rfl]; exact w3
  · rw [z2s.i rfl]; exact w4
  · rw [z2s.i rfl]; exact (w5 f hf).1
theorem least_c (h : Qc N σ P r q b) {rain w : Nat} (hr : rain ≤ 99) (hw : w ≤ 1) (hN : 1100 ≤ N) : ∃ (σ' : Me) (o : Option (Nat × Nat)), fc11_least N 0 (nI rain) (nI w) σ = some (lsA w o, σ') ∧ Fr (cX b) σ σ' ∧ LsR P q r rain o := by
  have b6 := h.2.2.1.1
  have b2 := h.2.2.2.2.1
  obtain ⟨h1, h2, h3, h4, h5, h6, h7, h8, h9⟩ := id h
  have cc : ¬ (1 : Int32) = 0 := by decide
  have d1 := nI_pos (n := w) (by omega)
  have d2 : nI w ≤ 1 := by rw [y1]; exact nI_le hw (by decide)
  obtain ⟨σ1, l1, l2, l3, l4⟩ := look19_k h hr
  have hq1 := h.fr l2.gc
  have hb := bitsY_lt (q := q) (r := r) h3 rain
  by_cases hz : bitsY P q r rain = 0
  · refine ⟨σ1, some (0, 0), ?_, l2.gc, by show 0 < pn P; omega, Nat.zero_le _, ?_, fun f n hf hn hz2 => by show 0 < n ∨ (0 = n ∧ 0 ≤ f); omega⟩
    · have l38 := l3.2.2.1
      rw [hz] at l38
      have e : lsA w (some (0, 0)) = 0 := by
        show (if w = 0 then nI 0 else nI 0) = 0
        split <;> rfl
      rw [e]
      simp (disch := omega) only [fc11_least, PK h1, bnd, sky_y h1 h2.1 b6 (show 0 < pn P by omega) hr, cc, d1, d2, if_true, if_false, ↓reduceIte, and_true, true_and, and_false, false_and, not_true_eq_false, not_false_eq_true, and_self, qR, qI, l1, PK hq1.1, l38, nI_0]
    · show lsZ P q r rain 0 0
      unfold lsZ
      rw [Nat.sub_zero, rOwe_self]
      exact hz
  · obtain ⟨σ2, c1, c2', c3'⟩ := copyFrom_c (N := N) hq1.1 (a := 25) (b := 19) (.inr (.inl rfl)) (.inr (.inr rfl)) (by decide)
    have c2 : Fr (gX b) σ1 σ2 := c2'.mono (fun a j e => ld25_g e)
    have c3 := c3' P r hq1.2.1 b6
    have hs2 : SkY σ2 P q r (rain / pn P) := l4.fr c2' (fun _ => ⟨rfl, rfl, rfl⟩)
    obtain ⟨σ', o, z1, z2, z3⟩ := least64_c h hr hw hN hz (pn P) 0 N none 1000 σ2 (by omega) (by omega) (l2.gc.tr c2.gc) c3 hs2 (.inl ⟨rfl, rfl, fun f n hf => by omega⟩)
    refine ⟨σ', o, ?_, z2, z3⟩
    rw [← z1]
    have hz' : ¬ nI (bitsY P q r rain) = 0 := nI_ne0 (by omega) (by omega)
    simp (disch := omega) only [fc11_least, PK h1, bnd, sky_y h1 h2.1 b6 (show 0 < pn P by omega) hr, cc, d1, d2, if_true, if_false, ↓reduceIte, and_true, true_and, and_false, false_and, not_true_eq_false, not_false_eq_true, and_self, qR, qI, l1, PK hq1.1, l3.2.2.1, hz', c1]
    rfl
end QS
