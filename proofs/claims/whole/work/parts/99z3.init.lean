/-! the state after the constructors -/
def initM (N : Nat) : Option (Nat × Nat × Nat × Me) :=
  (newO σ0 11).bind fun p0 =>
  (fc11_init N p0.1 p0.2).bind fun p4 =>
  (newO p4.2 12).bind fun p8 =>
  (fc12_init N p8.1 p8.2).bind fun p12 =>
  (newA p12.2 .long (1 : Int32) 1).bind fun p17 => some (p0.1, p8.1, p17.1, p17.2)
theorem law_init (N L : Nat) (xs : Nat → Int32) : fL_law N L xs σ0 = (initM N).bind fun q => fL_law_23 N L xs 600 () (some q.1) (some q.2.1) (some q.2.2.1) (0 : Int32) q.2.2.2 := by
  unfold fL_law initM
  simp only [Option.bind_assoc, bnd]
/-- all ints but two are 0, all longs are -/
def Zi (σ : Me) : Prop := (∀ a j : Nat, ¬ (a = 0 ∧ j = 8) → ¬ (a = 60 ∧ j = 30) → mi σ a j = 0) ∧ ∀ a j : Nat, ml σ a j = 0
def Zo {α : Type} (f : α → Me) (o : Option α) : Prop := ∀ p, o = some p → Zi (f p)
theorem Zi.new {σ : Me} (h : Zi σ) (k : Kn) (w : Nat) : Zi (newC σ k w) := by
  refine ⟨fun a j h1 h2 => ?_, fun a j => ?_⟩
  · show (if a = mz σ then fun _ => (0 : Int32) else mi σ a) j = 0
    by_cases e : a = mz σ
    · rw [if_pos e]
    · rw [if_neg e]; exact h.1 a j h1 h2
  · show (if a = mz σ then fun _ => (0 : Int64) else ml σ a) j = 0
    by_cases e : a = mz σ
    · rw [if_pos e]
    · rw [if_neg e]; exact h.2 a j
theorem zo_O {σ : Me} (h : Zi σ) (c : Nat) : Zo Prod.snd (newO σ c) := fun p e => by
  unfold newO at e
  split at e
  · cases e; exact h.new _ _
  · cases e
theorem zo_A {σ : Me} (h : Zi σ) (t : FieldType) (n : Int32) (B : Nat) : Zo Prod.snd (newA σ t n B) := fun p e => by
  unfold newA at e
  split at e
  · cases e; exact h.new _ _
  · cases e
theorem zo_R {σ : Me} (h : Zi σ) (c j : Nat) (r x : Option Nat) : Zo id (pR σ c j r x) := fun p e => by
  unfold pR at e
  cases d : dr σ r (.inl c) with
  | none => rw [d] at e; cases e
  | some a => rw [d] at e; cases e; exact h
theorem zo_8 {σ : Me} (h : Zi σ) (x : Int32) : Zo id (pI σ 11 8 (some 0) x) := fun p e => by
  unfold pI at e
  cases d : dr σ (some 0) (.inl 11) with
  | none => rw [d] at e; cases e
  | some a =>
    have ha : a = 0 := by
      have := (dr_spec d).1
      cases this; rfl
    rw [d] at e; cases e; subst ha
    refine ⟨fun b j h1 h2 => ?_, h.2⟩
    rw [id, mi_at, if_neg h1]; exact h.1 b j h1 h2
theorem zo_30 {σ : Me} (h : Zi σ) (x : Int32) : Zo id (pI σ 12 30 (some 60) x) := fun p e => by
  unfold pI at e
  cases d : dr σ (some 60) (.inl 12) with
  | none => rw [d] at e; cases e
  | some a =>
    have ha : a = 60 := by
      have := (dr_spec d).1
      cases this; rfl
    rw [d] at e; cases e; subst ha
    refine ⟨fun b j h1 h2 => ?_, h.2⟩
    rw [id, mi_at, if_neg h2]; exact h.1 b j h1 h2
theorem zo_b {α β : Type} {f : α → Me} {g : β → Me} {o : Option α} {F : α → Option β} (h : Zo f o) (k : ∀ p, Zi (f p) → Zo g (F p)) : Zo g (o.bind F) := fun p e => by
  cases d : o with
  | none => rw [d] at e; cases e
  | some a => rw [d] at e; exact k a (h a d) p e
theorem zo_q {α β : Type} {g : β → Me} {o : Option α} {F : α → Option β} (k : ∀ p, Zo g (F p)) : Zo g (o.bind F) := fun p e => by
  cases d : o with
  | none => rw [d] at e; cases e
  | some a => rw [d] at e; exact k a p e
theorem zo_s {σ : Me} (h : Zi σ) : Zo Prod.snd (some ((), σ)) := fun p e => by cases e; exact h
theorem zi_10 (N a : Nat) {σ : Me} (h : Zi σ) : Zo Prod.snd (fc10_init N a σ) := by
  unfold fc10_init
  repeat (first | exact zo_s (by assumption) | refine zo_b (zo_A (by assumption) _ _ _) (fun p hp => ?_) | refine zo_b (f := id) (zo_R (by assumption) _ _ _ _) (fun s hs => ?_) | refine zo_b (zo_O (by assumption) _) (fun p hp => ?_))
theorem zi_2 (N a : Nat) {σ : Me} (h : Zi σ) : Zo Prod.snd (fc2_init N a σ) := by
  unfold fc2_init
  repeat (first | exact zo_s (by assumption) | refine zo_b (zo_A (by assumption) _ _ _) (fun p hp => ?_) | refine zo_b (f := id) (zo_R (by assumption) _ _ _ _) (fun s hs => ?_) | refine zo_b (zo_O (by assumption) _) (fun p hp => ?_))
theorem zi_9 (N a : Nat) {σ : Me} (h : Zi σ) : Zo Prod.snd (fc9_init N a σ) := by
  unfold fc9_init
  repeat (first | exact zo_s (by assumption) | refine zo_b (zo_A (by assumption) _ _ _) (fun p hp => ?_) | refine zo_b (f := id) (zo_R (by assumption) _ _ _ _) (fun s hs => ?_) | refine zo_b (zo_O (by assumption) _) (fun p hp => ?_))
theorem zi_0 (N a : Nat) {σ : Me} (h : Zi σ) : Zo Prod.snd (fc0_init N a σ) := by
  unfold fc0_init
  repeat (first | exact zo_s (by assumption) | refine zo_b (zo_A (by assumption) _ _ _) (fun p hp => ?_) | refine zo_b (f := id) (zo_R (by assumption) _ _ _ _) (fun s hs => ?_) | refine zo_b (zo_O (by assumption) _) (fun p hp => ?_))
theorem zi_1 (N a : Nat) {σ : Me} (h : Zi σ) : Zo Prod.snd (fc1_init N a σ) := by
  unfold fc1_init
  repeat (first | exact zo_s (by assumption) | refine zo_b (zo_A (by assumption) _ _ _) (fun p hp => ?_) | refine zo_b (f := id) (zo_R (by assumption) _ _ _ _) (fun s hs => ?_) | refine zo_b (zo_O (by assumption) _) (fun p hp => ?_))
theorem zi_6 (N a : Nat) (x : Option Nat) {σ : Me} (h : Zi σ) : Zo Prod.snd (fc6_init N a x σ) := by
  unfold fc6_init
  refine zo_q (fun v => ?_)
  repeat (first | exact zo_s (by assumption) | refine zo_b (zo_A (by assumption) _ _ _) (fun p hp => ?_) | refine zo_b (f := id) (zo_R (by assumption) _ _ _ _) (fun s hs => ?_) | refine zo_b (zo_O (by assumption) _) (fun p hp => ?_) | refine zo_b (zi_2 _ _ (by assumption)) (fun p hp => ?_))
theorem zi_4 (N a : Nat) (x : Option Nat) {σ : Me} (h : Zi σ) : Zo Prod.snd (fc4_init N a x σ) := by
  unfold fc4_init
  repeat (first | exact zo_s (by assumption) | refine zo_b (zo_A (by assumption) _ _ _) (fun p hp => ?_) | refine zo_b (f := id) (zo_R (by assumption) _ _ _ _) (fun s hs => ?_) | refine zo_b (zo_O (by assumption) _) (fun p hp => ?_))
theorem zi_8 (N a : Nat) (x : Option Nat) {σ : Me} (h : Zi σ) : Zo Prod.snd (fc8_init N a x σ) := by
  unfold fc8_init
  repeat (first | exact zo_s (by assumption) | refine zo_b (zo_A (by assumption) _ _ _) (fun p hp => ?_) | refine zo_b (f := id) (zo_R (by assumption) _ _ _ _) (fun s hs => ?_) | refine zo_b (zo_O (by assumption) _) (fun p hp => ?_))
theorem zi_5 (N a : Nat) {σ : Me} (h : Zi σ) : Zo Prod.snd (fc5_init N a σ) := by
  unfold fc5_init
  repeat (first | exact zo_s (by assumption) | refine zo_b (zo_A (by assumption) _ _ _) (fun p hp => ?_) | refine zo_b (f := id) (zo_R (by assumption) _ _ _ _) (fun s hs => ?_) | refine zo_b (zo_O (by assumption) _) (fun p hp => ?_) | refine zo_b (zi_0 _ _ (by assumption)) (fun p hp => ?_))
theorem zi_11 (N : Nat) {σ : Me} (h : Zi σ) : Zo Prod.snd (fc11_init N 0 σ) := by
  unfold fc11_init
  repeat (first | exact zo_s (by assumption) | refine zo_b (zo_A (by assumption) _ _ _) (fun p hp => ?_) | refine zo_b (f := id) (zo_R (by assumption) _ _ _ _) (fun s hs => ?_) | refine zo_b (zo_O (by assumption) _) (fun p hp => ?_) | refine zo_b (f := id) (zo_8 (by assumption) _) (fun s hs => ?_) | refine zo_b (zi_10 _ _ (by assumption)) (fun p hp => ?_) | refine zo_b (zi_6 _ _ _ (by assumption)) (fun p hp => ?_) | refine zo_b (zi_4 _ _ _ (by assumption)) (fun p hp => ?_) | refine zo_b (zi_8 _ _ _ (by assumption)) (fun p hp => ?_) | refine zo_b (zi_2 _ _ (by assumption)) (fun p hp => ?_) | refine zo_b (zi_9 _ _ (by assumption)) (fun p hp => ?_) | refine zo_b (zi_0 _ _ (by assumption)) (fun p hp => ?_) | refine zo_b (zi_5 _ _ (by assumption)) (fun p hp => ?_) | refine zo_b (zi_1 _ _ (by assumption)) (fun p hp => ?_) | refine zo_q (fun v => ?_))
theorem zi_12 (N : Nat) {σ : Me} (h : Zi σ) : Zo Prod.snd (fc12_init N 60 σ) := by
  unfold fc12_init
  repeat (first | exact zo_s (by assumption) | refine zo_b (zo_A (by assumption) _ _ _) (fun p hp => ?_) | refine zo_b (f := id) (zo_R (by assumption) _ _ _ _) (fun s hs => ?_) | refine zo_b (f := id) (zo_30 (by assumption) _) (fun s hs => ?_) | refine zo_q (fun v => ?_))
def chkM : Option (Nat × Nat × Nat × Me) → Bool
  | none => false
  | some (a, b, c, σ) => a == 0 && b == 60 && c == 84 && mz σ == 85 && (List.range 85).all (fun i => decide (mk σ i = knd i)) && rfL.all (fun q => decide (mr σ q.1.1 q.1.2 = some q.2)) && decide (mr σ 31 0 = none) && decide (mi σ 0 8 = -1) && decide (mi σ 60 30 = -1)
set_option maxRecDepth 100000 in
theorem chk_ok : chkM (initM 10000) = true := by decide +kernel
theorem init_z {q : Nat × Nat × Nat × Me} (e : initM 10000 = some q) (h0 : q.1 = 0) (h60 : q.2.1 = 60) : Zi q.2.2.2 := by
  unfold initM at e
  have z0 : Zi σ0 := ⟨fun _ _ _ _ => rfl, fun _ _ => rfl⟩
  cases e0 : newO σ0 11 with
  | none => rw [e0] at e; cases e
  | some p0 =>
    rw [e0, bnd] at e
    have z1 := zo_O z0 11 p0 e0
    cases e1 : fc11_init 10000 p0.1 p0.2 with
    | none => rw [e1] at e; cases e
    | some p4 =>
      rw [e1, bnd] at e
      cases e2 : newO p4.2 12 with
      | none => rw [e2] at e; cases e
      | some p8 =>
        rw [e2, bnd] at e
        cases e3 : fc12_init 10000 p8.1 p8.2 with
        | none => rw [e3] at e; cases e
        | some p12 =>
          rw [e3, bnd] at e
          cases e4 : newA p12.2 .long (1 : Int32) 1 with
          | none => rw [e4] at e; cases e
          | some p17 =>
            rw [e4, bnd] at e
            cases e
            have a0 : p0.1 = 0 := h0
            have a60 : p8.1 = 60 := h60
            rw [a0] at e1
            rw [a60] at e3
            have z2 := zi_11 10000 z1 p4 e1
            have z3 := zo_O z2 12 p8 e2
            have z4 := zi_12 10000 z3 p12 e3
            exact zo_A z4 .long 1 1 p17 e4
def Sy0 : Sy := ((0, fun _ => 0), [], none, [], 0, (0, 0, 0, fun _ => 0), (fun _ => 0, fun _ => 0, fun _ => 0, fun _ => 0, 0, 0), fun _ => (0, 0, 0), [], none, [])
/-- the two sides stand for the same -/
def Iv (σ : Me) (S : Sy) : Prop := Sh σ ∧ RC σ S ∧ RM σ S ∧ WS S ∧ LX (sL S)
theorem init_ok : ∃ σ : Me, initM 10000 = some (0, 60, 84, σ) ∧ Iv σ Sy0 ∧ mz σ = 85 := by
  have h := chk_ok
  cases e : initM 10000 with
  | none => rw [e] at h; cases h
  | some q =>
    obtain ⟨a, b, c, σ⟩ := q
    rw [e] at h
    simp only [chkM, Bool.and_eq_true, beq_iff_eq, decide_eq_true_eq, List.all_eq_true, List.mem_range] at h
    obtain ⟨⟨⟨⟨⟨⟨⟨⟨ha, hb⟩, hc⟩, hz⟩, hk⟩, hr⟩, h31⟩, h8⟩, h30⟩ := h
    subst ha hb hc
    have z := init_z e rfl rfl
    have zz : ∀ a j : Nat, ¬ (a = 0 ∧ j = 8) → ¬ (a = 60 ∧ j = 30) → mi σ a j = nI 0 := z.1
    have no : ∀ {α : Type} {k : Nat} {q : α}, ([] : List α)[k]? = some q → False := fun h => by cases h
    refine ⟨σ, rfl, ⟨⟨hk, hr, by omega⟩, ?_, ?_, ?_, ?_⟩, hz⟩
    · refine ⟨⟨zz _ _ (by omega) (by omega), fun k hk => absurd hk (Nat.not_lt_zero k)⟩, ⟨zz _ _ (by omega) (by omega), h8, h31, fun k q e => (no e).elim⟩, ⟨zz _ _ (by omega) (by omega), fun k q e => (no e).elim⟩, zz _ _ (by omega) (by omega), ⟨⟨zz _ _ (by omega) (by omega), zz _ _ (by omega) (by omega), zz _ _ (by omega) (by omega), zz _ _ (by omega) (by omega), zz _ _ (by omega) (by omega), fun f hf => absurd hf (Nat.not_lt_zero f)⟩, ⟨0, by decide, zz _ _ (by omega) (by omega), zz _ _ (by omega) (by omega), fun i a e => (no e).elim⟩, fun y _ hy => absurd hy (Nat.not_lt_zero y), zz _ _ (by omega) (by omega)⟩, ⟨zz _ _ (by omega) (by omega), fun k q e => (no e).elim⟩⟩
    · refine ⟨⟨zz _ _ (by omega) (by omega), fun k hk => absurd hk (Nat.not_lt_zero k)⟩, ⟨zz _ _ (by omega) (by omega), h30, fun k q e => (no e).elim, fun z0 _ => .inl (z.2 _ _)⟩, ⟨zz _ _ (by omega) (by omega), fun k q e => (no e).elim⟩, zz _ _ (by omega) (by omega), ⟨⟨zz _ _ (by omega) (by omega), zz _ _ (by omega) (by omega), zz _ _ (by omega) (by omega), fun f hf => absurd hf (Nat.not_lt_zero f)⟩, ⟨zz _ _ (by omega) (by omega), zz _ _ (by omega) (by omega), fun f hf => absurd hf (Nat.not_lt_zero f)⟩, ⟨zz _ _ (by omega) (by omega), fun j hj => absurd hj (Nat.not_lt_zero j)⟩, ⟨zz _ _ (by omega) (by omega), fun i a e => (no e).elim⟩, zz _ _ (by omega) (by omega)⟩, ⟨zz _ _ (by omega) (by omega), fun k q e => (no e).elim⟩⟩
    · exact ⟨⟨Nat.zero_le _, fun k hk => absurd hk (Nat.not_lt_zero k)⟩, Nat.zero_le _, fun k q e => (no e).elim, (fun k e => by cases e), Nat.zero_le _, fun k q e => (no e).elim, Nat.zero_le _, .inl ⟨rfl, rfl, rfl, rfl⟩, Nat.zero_le _, fun k q e => (no e).elim⟩
    · exact fun k q e => (no e).elim
