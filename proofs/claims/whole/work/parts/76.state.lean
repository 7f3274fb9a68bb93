/-! the state that both sides stand for -/
/-- a text: its length, its bytes -/
abbrev Tx : Type := Nat × (Nat → Nat)
/-- a number; or a sign (a letter's place from 1 on, or its byte) -/
abbrev Ci : Type := Nat ⊕ Nat
def enc : Ci → Int32
  | .inl n => nI n
  | .inr s => -nI s
/-- a law: its object, its text, its signs in the order in which they are worked out -/
abbrev LwE : Type := Nat × Tx × List Ci
/-- a plan: its object, its steps: what, first, second -/
abbrev PnE : Type := Nat × Nat × (Nat → Nat × Nat × Int32)
abbrev Fa : Type := Nat × Nat × Nat × Bool
abbrev Im : Type := Option (Rw × Lg)
def sb (b : Nat) : Int32 := (nI b).toInt8.toInt32
abbrev Sy : Type := Tx × List LwE × Option Nat × List PnE × Nat × Pl × Rw × Lg × List Rw × Im × List Fa
abbrev sT (S : Sy) : Tx := S.1
abbrev sL (S : Sy) : List LwE := S.2.1
abbrev sH (S : Sy) : Option Nat := S.2.2.1
abbrev sP (S : Sy) : List PnE := S.2.2.2.1
abbrev sE (S : Sy) : Nat := S.2.2.2.2.1
abbrev sQ (S : Sy) : Pl := S.2.2.2.2.2.1
abbrev sR (S : Sy) : Rw := S.2.2.2.2.2.2.1
abbrev sG (S : Sy) : Lg := S.2.2.2.2.2.2.2.1
abbrev sA (S : Sy) : List Rw := S.2.2.2.2.2.2.2.2.1
abbrev sI (S : Sy) : Im := S.2.2.2.2.2.2.2.2.2.1
abbrev sF (S : Sy) : List Fa := S.2.2.2.2.2.2.2.2.2.2
/-! the class's side -/
def TpC (σ : Me) (T : Tx) : Prop := mi σ 1 1 = nI T.1 ∧ ∀ k, k < T.1 → mi σ 2 k = sb (T.2 k)
def lwAt (σ : Me) (la : Nat) (C : List Int32) : Prop := Kd σ la (.inl 3) ∧ Kd σ (la + 1) (.inr (.int, C.length)) ∧ Kd σ (la + 2) (.inr (.int, 32)) ∧ 85 ≤ la ∧ mr σ la 0 = some (la + 1) ∧ mr σ la 1 = some (la + 2) ∧ ∀ (i : Nat) (x : Int32), C[i]? = some x → mi σ (la + 1) i = x
def LwC (σ : Me) (ls : List LwE) (hold : Option Nat) : Prop := mi σ 0 6 = nI ls.length ∧ mi σ 0 8 = oI hold ∧ mr σ 31 0 = (hold.bind fun k => (ls[k]?).map Prod.fst) ∧ ∀ (k : Nat) (q : LwE), ls[k]? = some q → mr σ 17 k = some q.1 ∧ lwAt σ q.1 (q.2.2.map enc)
def pnAt (σ : Me) (pa : Nat) (p : Nat × (Nat → Nat × Nat × Int32)) : Prop := Kd σ pa (.inl 7) ∧ Kd σ (pa + 1) (.inr (.int, 16)) ∧ Kd σ (pa + 2) (.inr (.int, 16)) ∧ Kd σ (pa + 3) (.inr (.int, 16)) ∧ 85 ≤ pa ∧ mr σ pa 0 = some (pa + 1) ∧ mr σ pa 1 = some (pa + 2) ∧ mr σ pa 2 = some (pa + 3) ∧ mi σ pa 3 = nI p.1 ∧ ∀ i, i < p.1 → mi σ (pa + 1) i = nI (p.2 i).1 ∧ mi σ (pa + 2) i = nI (p.2 i).2.1 ∧ mi σ (pa + 3) i = (p.2 i).2.2
def PnC (σ : Me) (ps : List PnE) : Prop := mi σ 0 7 = nI ps.length ∧ ∀ (k : Nat) (q : PnE), ps[k]? = some q → mr σ 18 k = some q.1 ∧ pnAt σ q.1 q.2
def ImC (σ : Me) (n : Nat) : Im → Prop
  | none => mi σ 41 5 = nI 0
  | some q => mi σ 41 5 = nI 1 ∧ RwR σ 43 0 n q.1 ∧ ChC σ 44 (rt q.1 - 60) (rt q.1) q.2
def HsC (σ : Me) (P : Pl) (r : Rw) (lg : Lg) (acts : List Rw) (img : Im) : Prop := LdC σ 19 P r ∧ PsC σ (pn P) acts ∧ ChC σ 37 (yb (rt r) acts - 60) (rt r) lg ∧ ImC σ (pn P) img
def FcC (σ : Me) (fs : List Fa) : Prop := mi σ 48 4 = nI fs.length ∧ ∀ (k : Nat) (q : Fa), fs[k]? = some q → mi σ 49 k = nI q.1 ∧ mi σ 50 k = nI q.2.1 ∧ mi σ 51 k = nI q.2.2.1 ∧ mi σ 52 k = nI (if q.2.2.2 = true then 1 else 0)
def RC (σ : Me) (S : Sy) : Prop := TpC σ (sT S) ∧ LwC σ (sL S) (sH S) ∧ PnC σ (sP S) ∧ mi σ 0 9 = nI (sE S) ∧ HsC σ (sQ S) (sR S) (sG S) (sA S) (sI S) ∧ FcC σ (sF S)
/-- the held law's stack -/
def bOf (ls : List LwE) (hold : Option Nat) : Nat := match hold.bind fun k => ls[k]? with
  | none => 0
  | some q => q.1 + 2
def bOK (ls : List LwE) (b : Nat) : Prop := b < 85 ∨ ∃ (k : Nat) (q : LwE), ls[k]? = some q ∧ b = q.1 + 2
theorem bOf_ok (ls : List LwE) (hold : Option Nat) : bOK ls (bOf ls hold) := by
  unfold bOf
  cases hold with
  | none => exact .inl (by show 0 < 85; decide)
  | some k =>
    show bOK ls (match (some k).bind fun k => ls[k]? with
      | none => 0
      | some q => q.1 + 2)
    rw [Option.bind_some]
    cases e : ls[k]? with
    | none => exact .inl (by show 0 < 85; decide)
    | some q => exact .inr ⟨k, q, e, rfl⟩
theorem TpC.fr {X : Nat → Nat → Bool} {σ σ' : Me} {T : Tx} (h : TpC σ T) (k : Fr X σ σ') (h1 : X 1 1 = false) (h2 : ∀ j, X 2 j = false) : TpC σ' T :=
  ⟨by rw [k.i h1]; exact h.1, fun j hj => by rw [k.i (h2 _)]; exact h.2 j hj⟩
theorem Fr_k {X : Nat → Nat → Bool} {σ σ' : Me} (k : Fr X σ σ') {a : Nat} {q : Kn} (h : Kd σ a q) : Kd σ' a q := ⟨by rw [k.1]; exact h.1, by rw [k.2.1]; exact h.2.1, h.2.2⟩
theorem kd_ne {σ : Me} {a : Nat} {q q' : Kn} (h : Kd σ a q) (h' : Kd σ a q') : q = q' := h.1.symm.trans h'.1
theorem stk_law {σ : Me} {ls : List LwE} {hold : Option Nat} (h : LwC σ ls hold) {b : Nat} (hb : bOK ls b) {k : Nat} {q : LwE} (e : ls[k]? = some q) : b ≠ q.1 ∧ b ≠ q.1 + 1 := by
  obtain ⟨-, a1, a2, a3, a4, -⟩ := h.2.2.2 k q e
  rcases hb with hb | ⟨k', q', e', rfl⟩
  · omega
  · obtain ⟨-, b1, b2, b3, b4, -⟩ := h.2.2.2 k' q' e'
    refine ⟨fun w => ?_, fun w => ?_⟩
    · rw [w] at b3
      have := kd_ne a1 b3
      cases this
    · have w : q.1 = q'.1 + 1 := by omega
      rw [w] at a1
      have := kd_ne a1 b2
      cases this
theorem stk_plan {σ : Me} {ls : List LwE} {hold : Option Nat} {ps : List PnE} (h : LwC σ ls hold) (h' : PnC σ ps) {b : Nat} (hb : bOK ls b) {k : Nat} {q : PnE} (e : ps[k]? = some q) : b ≠ q.1 ∧ b ≠ q.1 + 1 ∧ b ≠ q.1 + 2 ∧ b ≠ q.1 + 3 := by
  obtain ⟨-, a1, a2, a3, a4, a5, -⟩ := h'.2 k q e
  rcases hb with hb | ⟨k', q', e', rfl⟩
  · omega
  · obtain ⟨-, b1, b2, b3, b4, -⟩ := h.2.2.2 k' q' e'
    refine ⟨fun w => ?_, fun w => ?_, fun w => ?_, fun w => ?_⟩
    · rw [w] at b3
      have := kd_ne a1 b3
      cases this
    · have w : q.1 = q'.1 + 1 := by omega
      rw [w] at a1
      have := kd_ne a1 b2
      cases this
    · have w : q.1 = q'.1 := by omega
      rw [w] at a1
      have := kd_ne a1 b1
      cases this
    · have w : q'.1 = q.1 + 1 := by omega
      rw [w] at b1
      have := kd_ne b1 a2
      cases this
theorem lwAt.fr {X : Nat → Nat → Bool} {σ σ' : Me} {la : Nat} {C : List Int32} (h : lwAt σ la C) (k : Fr X σ σ') (h1 : ∀ j, X la j = false) (h2 : ∀ j, X (la + 1) j = false) : lwAt σ' la C := by
  obtain ⟨a1, a2, a3, a4, a5, a6, a7⟩ := h
  exact ⟨Fr_k k a1, Fr_k k a2, Fr_k k a3, a4, by rw [k.r (h1 _)]; exact a5, by rw [k.r (h1 _)]; exact a6, fun i x e => by rw [k.i (h2 _)]; exact a7 i x e⟩
theorem LwC.fr {X : Nat → Nat → Bool} {σ σ' : Me} {ls : List LwE} {hold : Option Nat} {b : Nat} (h : LwC σ ls hold) (k : Fr X σ σ') (hb : bOK ls b) (h6 : X 0 6 = false) (h8 : X 0 8 = false) (h17 : ∀ j, X 17 j = false) (h31 : X 31 0 = false) (hX : ∀ a j, 85 ≤ a → a ≠ b → X a j = false) : LwC σ' ls hold := by
  refine ⟨by rw [k.i h6]; exact h.1, by rw [k.i h8]; exact h.2.1, by rw [k.r h31]; exact h.2.2.1, fun i q e => ⟨by rw [k.r (h17 _)]; exact (h.2.2.2 i q e).1, ?_⟩⟩
  have hq := stk_law h hb e
  have h4 := (h.2.2.2 i q e).2
  have h5 : 85 ≤ q.1 := h4.2.2.2.1
  exact h4.fr k (fun j => hX _ j h5 (fun w => hq.1 w.symm)) (fun j => hX _ j (by omega) (fun w => hq.2 w.symm))
theorem pnAt.fr {X : Nat → Nat → Bool} {σ σ' : Me} {pa : Nat} {p : Nat × (Nat → Nat × Nat × Int32)} (h : pnAt σ pa p) (k : Fr X σ σ') (h1 : ∀ j, X pa j = false ∧ X (pa + 1) j = false ∧ X (pa + 2) j = false ∧ X (pa + 3) j = false) : pnAt σ' pa p := by
  obtain ⟨a1, a2, a3, a4, a5, a6, a7, a8, a9, a10⟩ := h
  refine ⟨Fr_k k a1, Fr_k k a2, Fr_k k a3, Fr_k k a4, a5, by rw [k.r (h1 _).1]; exact a6, by rw [k.r (h1 _).1]; exact a7, by rw [k.r (h1 _).1]; exact a8, by rw [k.i (h1 _).1]; exact a9, fun i hi => ?_⟩
  rw [k.i (h1 _).2.1, k.i (h1 _).2.2.1, k.i (h1 _).2.2.2]
  exact a10 i hi
theorem PnC.fr {X : Nat → Nat → Bool} {σ σ' : Me} {ls : List LwE} {hold : Option Nat} {ps : List PnE} {b : Nat} (h : PnC σ ps) (hl : LwC σ ls hold) (k : Fr X σ σ') (hb : bOK ls b) (h7 : X 0 7 = false) (h18 : ∀ j, X 18 j = false) (hX : ∀ a j, 85 ≤ a → a ≠ b → X a j = false) : PnC σ' ps := by
  refine ⟨by rw [k.i h7]; exact h.1, fun i q e => ⟨by rw [k.r (h18 _)]; exact (h.2 i q e).1, ?_⟩⟩
  obtain ⟨q1, q2, q3, q4⟩ := stk_plan hl h hb e
  have h4 := (h.2 i q e).2
  have h5 : 85 ≤ q.1 := h4.2.2.2.2.1
  exact h4.fr k (fun j => ⟨hX _ j h5 (fun w => q1 w.symm), hX _ j (by omega) (fun w => q2 w.symm), hX _ j (by omega) (fun w => q3 w.symm), hX _ j (by omega) (fun w => q4 w.symm)⟩)
theorem FcC.fr {X : Nat → Nat → Bool} {σ σ' : Me} {fs : List Fa} (h : FcC σ fs) (k : Fr X σ σ') (h4 : X 48 4 = false) (h5 : ∀ j, X 49 j = false ∧ X 50 j = false ∧ X 51 j = false ∧ X 52 j = false) : FcC σ' fs :=
  ⟨by rw [k.i h4]; exact h.1, fun i q e => by rw [k.i (h5 _).1, k.i (h5 _).2.1, k.i (h5 _).2.2.1, k.i (h5 _).2.2.2]; exact h.2 i q e⟩
theorem ImC.fr {X : Nat → Nat → Bool} {σ σ' : Me} {n : Nat} {img : Im} (h : ImC σ n img) (k : Fr X σ σ') (hn : n ≤ 6) (h5 : X 41 5 = false) (h43 : ∀ j, X 43 j = false ∧ X 45 j = false ∧ X 46 j = false ∧ X 47 j = false) : ImC σ' n img := by
  cases img with
  | none =>
    have h : mi σ 41 5 = nI 0 := h
    show mi σ' 41 5 = nI 0
    rw [k.i h5]; exact h
  | some q =>
    obtain ⟨a1, a2, a3⟩ := h
    exact ⟨by rw [k.i h5]; exact a1, a2.fr k hn (fun j _ _ => (h43 j).1), a3.fr k (fun j => (h43 j).2)⟩
/-- what a question to the class may write -/
def cX (b : Nat) : Nat → Nat → Bool := fun a j => (a == 1 && j == 2) || (a == 3 && j == 2) || a == 4 || (a == 5 && decide (5 ≤ j)) || (decide (6 ≤ a) && decide (a ≤ 10)) || (a == 11 && j == 2) || a == 12 || (a == 13 && j == 4) || (decide (14 ≤ a) && decide (a ≤ 16)) || (a == 25 && decide (5 ≤ j)) || (decide (26 ≤ a) && decide (a ≤ 30)) || (a == 31 && decide (6 ≤ j)) || (decide (32 ≤ a) && decide (a ≤ 36)) || (decide (53 ≤ a) && decide (a ≤ 59)) || (decide (85 ≤ a) && a == b)
theorem cX_f (b : Nat) : Sf (cX b) := by
  have h : ∀ q ∈ rfL, q.1.1 < 85 ∧ cX 0 q.1.1 q.1.2 = false := by decide +kernel
  intro q hq
  have h1 := h q hq
  have h2 : ¬ 85 ≤ q.1.1 := by omega
  have h3 := h1.2
  simp only [cX, h2, decide_false, Bool.false_and, Bool.or_false] at h3 ⊢
  exact h3
theorem cX_hi {b a j : Nat} (h : 85 ≤ a) (h2 : a ≠ b) : cX b a j = false := by
  simp only [cX, Bool.or_eq_false_iff, Bool.and_eq_false_iff, decide_eq_false_iff_not, beq_eq_false_iff_ne]
  omega
theorem RC.fr {σ σ' : Me} {S : Sy} {b : Nat} (h : RC σ S) (k : Fr (cX b) σ σ') (hb : bOK (sL S) b) (hn : pn (sQ S) ≤ 6) : RC σ' S := by
  obtain ⟨h1, h2, h3, h4, ⟨h5, h6, h7, h8⟩, h9⟩ := h
  refine ⟨h1.fr k rfl (fun _ => rfl), h2.fr k hb rfl rfl (fun _ => rfl) rfl (fun _ _ => cX_hi), h3.fr h2 k hb rfl (fun _ => rfl) (fun _ _ => cX_hi), ?_, ⟨?_, ?_, ?_, ?_⟩, ?_⟩
  · rw [k.i rfl]; exact h4
  · exact h5.fr k (fun _ => ⟨rfl, rfl, rfl, rfl, rfl, rfl⟩)
  · exact h6.fr k hn rfl rfl (fun _ => rfl)
  · exact h7.fr k (fun _ => ⟨rfl, rfl, rfl⟩)
  · exact h8.fr k hn rfl (fun _ => ⟨rfl, rfl, rfl, rfl⟩)
  · exact h9.fr k rfl (fun _ => ⟨rfl, rfl, rfl, rfl⟩)
