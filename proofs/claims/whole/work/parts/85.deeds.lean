/-! acts by hand, in the class -/
def HsB (P : Pl) (r : Rw) (acts : List Rw) (img : Im) : Prop := (pn P = 0 ∧ rt r = 0 ∧ acts = [] ∧ img = none) ∨ (2 ≤ pn P ∧ PlB P ∧ RwB (pn P) r ∧ rt r ≤ 999 ∧ Chn (rt r) acts ∧ acts.length ≤ 40 ∧ (∀ a ∈ acts, RwB (pn P) a ∧ rt a ≤ 999) ∧ (∀ q, img = some q → RwB (pn P) q.1 ∧ rt q.1 ≤ 999))
def txOK (T : Tx) : Prop := T.1 ≤ 240 ∧ ∀ k, k < T.1 → 0 < T.2 k ∧ T.2 k < 256
/-- kinds; a year's rain; a field's digit; how much -/
def stOK (s : Nat × Nat × Int32) : Prop := s.1 ≤ 3 ∧ s.2.1 ≤ 99 ∧ (s.1 ≠ 0 → s.2.1 ≤ 9) ∧ (s.1 = 1 → ∃ d, d ≤ 9 ∧ s.2.2 = nI d) ∧ (s.1 ≠ 1 → s.2.2 = -1)
def plOK (p : Nat × (Nat → Nat × Nat × Int32)) : Prop := 1 ≤ p.1 ∧ p.1 ≤ 16 ∧ ∀ i, i < p.1 → stOK (p.2 i)
def WS (S : Sy) : Prop := txOK (sT S) ∧ (sL S).length ≤ 4 ∧ (∀ (k : Nat) (q : LwE), (sL S)[k]? = some q → txOK q.2.1 ∧ codeOK q.2.2) ∧ holdOK (sL S) (sH S) ∧ (sP S).length ≤ 4 ∧ (∀ (k : Nat) (q : PnE), (sP S)[k]? = some q → plOK q.2) ∧ sE S ≤ 9 ∧ HsB (sQ S) (sR S) (sA S) (sI S) ∧ (sF S).length ≤ 10 ∧ (∀ (k : Nat) (q : Fa), (sF S)[k]? = some q → faOK (pn (sQ S)) q)
abbrev sB (S : Sy) : Nat := bOf (sL S) (sH S)
abbrev sq (S : Sy) : PF := qOf (sL S) (sH S)
theorem HsB.n6 {P : Pl} {r : Rw} {acts : List Rw} {img : Im} (h : HsB P r acts img) : pn P ≤ 6 := by
  rcases h with h | h
  · omega
  · exact h.2.1.1
theorem WS.hs {S : Sy} (h : WS S) : HsB (sQ S) (sR S) (sA S) (sI S) := h.2.2.2.2.2.2.2.1
theorem WS.n6 {S : Sy} (h : WS S) : pn (sQ S) ≤ 6 := h.hs.n6
theorem HsB.yes {P : Pl} {r : Rw} {acts : List Rw} {img : Im} (h : HsB P r acts img) (h0 : pn P ≠ 0) : 2 ≤ pn P ∧ PlB P ∧ RwB (pn P) r ∧ rt r ≤ 999 ∧ Chn (rt r) acts ∧ acts.length ≤ 40 ∧ (∀ a ∈ acts, RwB (pn P) a ∧ rt a ≤ 999) ∧ (∀ q, img = some q → RwB (pn P) q.1 ∧ rt q.1 ≤ 999) := by
  rcases h with h | h
  · exact absurd h.1 h0
  · exact h
theorem Qc_of {N : Nat} {σ : Me} {S : Sy} (h : Sh σ) (hr : RC σ S) (hw : WS S) (h0 : pn (sQ S) ≠ 0) (hN : 300 ≤ N) : Qc N σ (sQ S) (sR S) (sq S) (sB S) := by
  obtain ⟨a1, a2, a3, a4, -⟩ := hw.hs.yes h0
  exact ⟨h, hr.2.2.2.2.1.1, a2, a3, a1, a4, pdX_of h hr.2.1 hw.2.2.2.1 (fun k q e => (hw.2.2.1 k q e).2) hN, qOf_B _ _, hN⟩
/-- what an act may write -/
def hX (b : Nat) : Nat → Nat → Bool := fun a j => cX b a j || (a == 19 && decide (5 ≤ j)) || (decide (20 ≤ a) && decide (a ≤ 24)) || (decide (38 ≤ a) && decide (a ≤ 40)) || (a == 41 && (j == 1 || j == 2 || j == 5)) || a == 42 || a == 43 || (decide (45 ≤ a) && decide (a ≤ 47))
theorem hX_f (b : Nat) : Sf (hX b) := by
  have h : ∀ q ∈ rfL, q.1.1 < 85 ∧ hX 0 q.1.1 q.1.2 = false := by decide +kernel
  intro q hq
  have h1 := h q hq
  have h2 : ¬ 85 ≤ q.1.1 := by omega
  have h3 := h1.2
  simp only [hX, cX, h2, decide_false, Bool.false_and, Bool.or_false] at h3 ⊢
  exact h3
theorem hX_hi {b a j : Nat} (h : 85 ≤ a) (h2 : a ≠ b) : hX b a j = false := by
  simp only [hX, cX, Bool.or_eq_false_iff, Bool.and_eq_false_iff, decide_eq_false_iff_not, beq_eq_false_iff_ne]
  omega
def clS : Nat → Nat → Bool := fun a _ => decide (a < 60) || decide (85 ≤ a)
theorem hX_cl {b a j : Nat} (h : clS a j = false) : hX b a j = false := by
  simp only [clS, hX, cX, Bool.or_eq_false_iff, Bool.and_eq_false_iff, decide_eq_false_iff_not, beq_eq_false_iff_ne] at h ⊢
  omega
theorem Fr.ch {b : Nat} {σ σ' : Me} (h : Fr (cX b) σ σ') : Fr (hX b) σ σ' := h.mono (fun _ _ e => by simp only [hX, Bool.or_eq_false_iff] at e; exact e.1.1.1.1.1.1.1)
theorem Fr.hc {b : Nat} {σ σ' : Me} (h : Fr (hX b) σ σ') : Fr clS σ σ' := h.mono (fun _ _ e => hX_cl e)
def withH (S : Sy) (r : Rw) (lg : Lg) (acts : List Rw) (img : Im) : Sy := (sT S, sL S, sH S, sP S, sE S, sQ S, r, lg, acts, img, sF S)
theorem RC.hs {σ σ' : Me} {S : Sy} {b : Nat} {r : Rw} {lg : Lg} {acts : List Rw} {img : Im} (h : RC σ S) (k : Fr (hX b) σ σ') (hb : bOK (sL S) b) (hs : HsC σ' (sQ S) r lg acts img) : RC σ' (withH S r lg acts img) := by
  obtain ⟨h1, h2, h3, h4, -, h9⟩ := h
  refine ⟨h1.fr k rfl (fun _ => rfl), h2.fr k hb rfl rfl (fun _ => rfl) rfl (fun _ _ => hX_hi), h3.fr h2 k hb rfl (fun _ => rfl) (fun _ _ => hX_hi), ?_, hs, ?_⟩
  · show mi σ' 0 9 = _
    rw [k.i rfl]; exact h4
  · exact h9.fr k rfl (fun _ => ⟨rfl, rfl, rfl, rfl⟩)
theorem WS.hs' {S : Sy} {r : Rw} {lg : Lg} {acts : List Rw} {img : Im} (h : WS S) (hh : HsB (sQ S) r acts img) : WS (withH S r lg acts img) :=
  ⟨h.1, h.2.1, h.2.2.1, h.2.2.2.1, h.2.2.2.2.1, h.2.2.2.2.2.1, h.2.2.2.2.2.2.1, hh, h.2.2.2.2.2.2.2.2.1, h.2.2.2.2.2.2.2.2.2⟩
/-! acts that are kept -/
abbrev psh (r : Rw) (acts : List Rw) : List Rw := (r :: acts).take 40
theorem psh_chn {r : Rw} {acts : List Rw} {t : Nat} (h : Chn (rt r) acts) (h1 : rt r ≤ t) (h2 : t ≤ rt r + 1) : Chn t (psh r acts) ∧ yb (rt r) acts ≤ yb t (psh r acts) ∧ t ≤ yb t (psh r acts) + 40 := by
  have hc : Chn t (r :: acts) := ⟨h1, h2, h⟩
  have h3 := Chn.take 40 hc
  have h4 := yb_le h3.1
  refine ⟨h3.1, h3.2, ?_⟩
  have h5 : (List.take 40 (r :: acts)).length ≤ 40 := by rw [List.length_take]; exact Nat.min_le_left _ _
  show t ≤ yb t (List.take 40 (r :: acts)) + 40
  omega
theorem psh_mem {r : Rw} {acts : List Rw} {a : Rw} (h : a ∈ psh r acts) : a = r ∨ a ∈ acts := by
  have := List.mem_of_mem_take h
  rcases List.mem_cons.mp this with e | e
  · exact .inl e
  · exact .inr e
theorem HsB.push {P : Pl} {r r' : Rw} {acts : List Rw} {img : Im} (h : HsB P r acts img) (h0 : pn P ≠ 0) (hR : RwB (pn P) r') (ht : rt r' ≤ 999) (h1 : rt r ≤ rt r') (h2 : rt r' ≤ rt r + 1) : HsB P r' (psh r acts) img := by
  obtain ⟨a1, a2, a3, a4, a5, a6, a7, a8⟩ := h.yes h0
  refine .inr ⟨a1, a2, hR, ht, (psh_chn a5 h1 h2).1, by rw [List.length_take]; exact Nat.min_le_left _ _, fun a ha => ?_, a8⟩
  rcases psh_mem ha with e | e
  · rw [e]; exact ⟨a3, a4⟩
  · exact a7 a e
/-- what a year of the land writes -/
def yX (b : Nat) : Nat → Nat → Bool := fun a j => gX b a j || uS 19 a j || (decide (38 ≤ a) && decide (a ≤ 40))
theorem yX_h {b a j : Nat} (h : hX b a j = false) : yX b a j = false := by
  simp only [hX, yX, cX, gX, uS, Bool.or_eq_false_iff, Bool.and_eq_false_iff, decide_eq_false_iff_not, beq_eq_false_iff_ne] at h ⊢
  omega
theorem keS_h {b a j : Nat} (h : hX b a j = false) : keS a j = false := by
  simp only [hX, keS, cX, Bool.or_eq_false_iff, Bool.and_eq_false_iff, decide_eq_false_iff_not, beq_eq_false_iff_ne] at h ⊢
  omega
theorem ld19_h {b a j : Nat} (h : hX b a j = false) : ldS 19 a j = false := by
  simp only [hX, ldS, cX, Bool.or_eq_false_iff, Bool.and_eq_false_iff, decide_eq_false_iff_not, beq_eq_false_iff_ne] at h ⊢
  omega
section DS
variable {N : Nat} {σ : Me}
theorem goBy_c {P : Pl} {r : Rw} {q : PF} {b : Nat} (h : Qc N σ P r q b) {rain lo lo' : Nat} {lg : Lg} (hr : rain ≤ 99) (hc : ChC σ 37 lo (rt r) lg) (h1 : lo ≤ lo') (h2 : rt r < lo' + 100) :
    ∃ σ' : Me, fc11_goBy N 0 (nI rain) σ = some (nI (borY P q r rain), σ') ∧ Fr (yX b) σ σ' ∧ LdC σ' 19 P (yrY P q r rain) ∧ ChC σ' 37 lo' (rt r + 1) (updG lg (rt r) (rain, bitsY P q r rain, borY P q r rain)) := by
  obtain ⟨σ1, l1, l2, l3⟩ := look19_g h hr
  have hq1 := h.fr l2.gc
  have ht := h.2.2.2.2.2.1
  have tl := tell_c (N := N) hq1.1 (t := rt r) (by omega) (nI rain) (nI (bitsY P q r rain)) (nI (borY P q r rain))
  have f2 : Fr (fun a _ => decide (38 ≤ a) && decide (a ≤ 40)) σ1 (setI (setI (setI σ1 38 (rt r % 100) (nI rain)) 39 (rt r % 100) (nI (bitsY P q r rain))) 40 (rt r % 100) (nI (borY P q r rain))) := fr_I rfl (fr_I rfl (fr_I rfl (Fr.rf _ _)))
  have hs2 : Sh (setI (setI (setI σ1 38 (rt r % 100) (nI rain)) 39 (rt r % 100) (nI (bitsY P q r rain))) 40 (rt r % 100) (nI (borY P q r rain))) := hq1.1
  have hL2 := hq1.2.1.fr f2 (fun _ => ⟨rfl, rfl, rfl, rfl, rfl, rfl⟩)
  have hk2 := l3.fr f2 (fun _ => ⟨rfl, rfl, rfl, rfl⟩)
  have hc1 := hc.fr l2 (fun _ => ⟨rfl, rfl, rfl⟩)
  have hc2 := hc1.put (v := (rain, bitsY P q r rain, borY P q r rain)) h1 h2
  have h9 := h.2.2.2.2.2.2.2.2
  obtain ⟨σ3, s1, s2, s3⟩ := settle_c (N := N) hs2 (.inl rfl) hL2 h.2.2.1 h.2.2.2.1 hk2 hr (by omega)
  have hs3 : Sh σ3 := s2.sh (uS_f (.inl rfl)) hs2
  refine ⟨σ3, ?_, ?_, s3, hc2.fr s2 (fun _ => ⟨rfl, rfl, rfl⟩)⟩
  · have e9 : mi σ1 19 9 = nI (rt r) := hq1.2.1.2.2.2.2.1
    have ek9 : mi σ3 31 9 = nI (borY P q r rain) := by rw [s2.i rfl]; exact hk2.2.2.2.1
    simp (disch := omega) only [fc11_goBy, qR, qI, PK h.1, bnd, l1, PK hq1.1, e9, l3.2.2.1, l3.2.2.2.1, tl, dr_setI, mr_setI, s1, PK hs3, ek9]
  · refine ((l2.mono (fun a j e => ?_)).tr (f2.mono (fun a j e => ?_))).tr (s2.mono (fun a j e => ?_))
    · simp only [yX, Bool.or_eq_false_iff] at e; exact e.1.1
    · simp only [yX, Bool.or_eq_false_iff] at e; exact e.2
    · simp only [yX, Bool.or_eq_false_iff] at e; exact e.1.2
/-- an act is kept, then the land is another one -/
theorem keepH {S : Sy} (h : Sh σ) (hr : RC σ S) (hw : WS S) (h0 : pn (sQ S) ≠ 0) : ∃ σ1 : Me, fc5_keep N 41 (some 19) σ = some ((), σ1) ∧ Sh σ1 ∧ Fr keS σ σ1 ∧ LdC σ1 19 (sQ S) (sR S) ∧ PsC σ1 (pn (sQ S)) (psh (sR S) (sA S)) ∧ ChC σ1 37 (yb (rt (sR S)) (sA S) - 60) (rt (sR S)) (sG S) ∧ ImC σ1 (pn (sQ S)) (sI S) := by
  obtain ⟨a1, a2, a3, a4, a5, a6, a7, a8⟩ := hw.hs.yes h0
  obtain ⟨h5, h6, h7, h8⟩ := hr.2.2.2.2.1
  obtain ⟨σ1, k1, k2, k3⟩ := keep_c (N := N) h h5 a2.1 h6 a6
  refine ⟨σ1, k1, k2.sh (by
    have h : ∀ q ∈ rfL, keS q.1.1 q.1.2 = false := by decide +kernel
    exact h) h, k2, h5.fr k2 (fun _ => ⟨rfl, rfl, rfl, rfl, rfl, rfl⟩), k3, h7.fr k2 (fun _ => ⟨rfl, rfl, rfl⟩), h8.fr k2 a2.1 rfl (fun _ => ⟨rfl, rfl, rfl, rfl⟩)⟩
theorem actH {S : Sy} (h : Sh σ) (hr : RC σ S) (hw : WS S) (h0 : pn (sQ S) ≠ 0) {σ1 σ2 : Me} {r' : Rw} (h1 : Sh σ1) (k2 : Fr keS σ σ1) (c1 : PsC σ1 (pn (sQ S)) (psh (sR S) (sA S))) (c2 : ChC σ1 37 (yb (rt (sR S)) (sA S) - 60) (rt (sR S)) (sG S)) (c3 : ImC σ1 (pn (sQ S)) (sI S)) (f2 : Fr (ldS 19) σ1 σ2) (hL : LdC σ2 19 (sQ S) r') (ht : rt r' = rt (sR S)) (hR : RwB (pn (sQ S)) r') :
    Sh σ2 ∧ Fr (hX (sB S)) σ σ2 ∧ RC σ2 (withH S r' (sG S) (psh (sR S) (sA S)) (sI S)) ∧ WS (withH S r' (sG S) (psh (sR S) (sA S)) (sI S)) := by
  obtain ⟨a1, a2, a3, a4, a5, a6, a7, a8⟩ := hw.hs.yes h0
  have b6 := a2.1
  have fr : Fr (hX (sB S)) σ σ2 := (k2.mono (fun a j e => keS_h e)).tr (f2.mono (fun a j e => ld19_h e))
  have hch := psh_chn (t := rt r') a5 (by omega) (by omega)
  refine ⟨fr.sh (hX_f _) h, fr, hr.hs fr (bOf_ok _ _) ⟨hL, ?_, ?_, ?_⟩, hw.hs' (hw.hs.push h0 hR (by omega) (by omega) (by omega))⟩
  · exact c1.fr f2 b6 rfl rfl (fun _ => rfl)
  · rw [ht] at hch ⊢
    exact (c2.fr f2 (fun _ => ⟨rfl, rfl, rfl⟩)).mono (by omega) (Nat.le_refl _)
  · exact c3.fr f2 b6 rfl (fun _ => ⟨rfl, rfl, rfl, rfl⟩)
/-- the state after a year -/
def yrS (S : Sy) (rain : Nat) : Sy := withH S (yrY (sQ S) (sq S) (sR S) rain) (updG (sG S) (rt (sR S)) (rain, bitsY (sQ S) (sq S) (sR S) rain, borY (sQ S) (sq S) (sR S) rain)) (psh (sR S) (sA S)) (sI S)
theorem yrS_ok {S : Sy} {rain : Nat} (hw : WS S) (h0 : pn (sQ S) ≠ 0) (ht : rt (sR S) < 999) : WS (yrS S rain) := by
  obtain ⟨a1, a2, a3, a4, a5, a6, a7, a8⟩ := hw.hs.yes h0
  refine hw.hs' (hw.hs.push h0 (RwB.yr a3 (by omega)) ?_ ?_ ?_)
  · show rt (sR S) + 1 ≤ 999; omega
  · show rt (sR S) ≤ rt (sR S) + 1; omega
  · show rt (sR S) + 1 ≤ rt (sR S) + 1; omega
/-- an act of a year, kept before -/
theorem yearH {S : Sy} (h : Sh σ) (hr : RC σ S) (hw : WS S) (h0 : pn (sQ S) ≠ 0) (hN : 300 ≤ N) {rain : Nat} (hrain : rain ≤ 99) (ht : rt (sR S) < 999) : ∃ σ1 σ2 : Me, fc5_keep N 41 (some 19) σ = some ((), σ1) ∧ fc11_goBy N 0 (nI rain) σ1 = some (nI (borY (sQ S) (sq S) (sR S) rain), σ2) ∧ Sh σ1 ∧ LdC σ1 19 (sQ S) (sR S) ∧ Fr keS σ σ1 ∧ Sh σ2 ∧ Fr (hX (sB S)) σ σ2 ∧ RC σ2 (yrS S rain) := by
  obtain ⟨a1, a2, a3, a4, a5, a6, a7, a8⟩ := hw.hs.yes h0
  have b6 := a2.1
  obtain ⟨σ1, k1, k2, k3, k4, k5, k6, k7⟩ := keepH (N := N) h hr hw h0
  have hr1 : LwC σ1 (sL S) (sH S) := hr.2.1.fr k3 (b := sB S) (bOf_ok _ _) rfl rfl (fun _ => rfl) rfl (fun a j h1 _ => by simp [keS]; omega)
  have q1 : Qc N σ1 (sQ S) (sR S) (sq S) (sB S) := ⟨k2, k4, a2, a3, a1, a4, pdX_of k2 hr1 hw.2.2.2.1 (fun k q e => (hw.2.2.1 k q e).2) hN, qOf_B _ _, hN⟩
  have hch := psh_chn (t := rt (sR S) + 1) a5 (by omega) (by omega)
  obtain ⟨σ2, g1, g2, g3, g4⟩ := goBy_c q1 hrain k6 (lo' := yb (rt (sR S) + 1) (psh (sR S) (sA S)) - 60) (by omega) (by omega)
  have fr : Fr (hX (sB S)) σ σ2 := (k3.mono (fun a j e => keS_h e)).tr (g2.mono (fun a j e => yX_h e))
  refine ⟨σ1, σ2, k1, g1, k2, k4, k3, fr.sh (hX_f _) h, fr, hr.hs fr (bOf_ok _ _) ⟨g3, ?_, g4, ?_⟩⟩
  · exact k5.fr g2 b6 rfl rfl (fun _ => rfl)
  · exact k7.fr g2 b6 rfl (fun _ => ⟨rfl, rfl, rfl, rfl⟩)
theorem year_c {S : Sy} (h : Sh σ) (hr : RC σ S) (hw : WS S) (h0 : pn (sQ S) ≠ 0) (hN : 300 ≤ N) {rain : Nat} (hrain : rain ≤ 99) (ht : rt (sR S) < 999) : ∃ σ' : Me, fc11_year N 0 (nI rain) σ = some (nI (borY (sQ S) (sq S) (sR S) rain), σ') ∧ Sh σ' ∧ Fr (hX (sB S)) σ σ' ∧ RC σ' (yrS S rain) := by
  obtain ⟨σ1, σ2, e1, e2, e3, e4, e5, e6, e7, e8⟩ := yearH (N := N) h hr hw h0 hN hrain ht
  have b6 := hw.n6
  refine ⟨σ2, ?_, e6, e7, e8⟩
  have cc : ¬ (1 : Int32) = 0 := by decide
  have l9 := hr.2.2.2.2.1.1.2.2.2.2.1
  simp (disch := omega) only [fc11_year, PK h, bnd, sky_y h hr.2.2.2.2.1.1.1 b6 (show 0 < pn (sQ S) by omega) hrain, cc, if_true, if_false, ↓reduceIte, and_true, true_and, and_false, false_and, not_true_eq_false, not_false_eq_true, and_self, qR, qI, l9, y999, nI_ltI, ht, e1, PK e3, e2]
theorem year_n {S : Sy} (h : Sh σ) (hr : RC σ S) (hw : WS S) {x : Int32} (hx : ¬ ∃ rain : Nat, rain ≤ 99 ∧ x = nI rain ∧ pn (sQ S) ≠ 0 ∧ rt (sR S) < 999) : fc11_year N 0 x σ = some (-1, σ) := by
  have b6 := hw.n6
  have hn := hr.2.2.2.2.1.1.1
  have l9 := hr.2.2.2.2.1.1.2.2.2.2.1
  have ht : rt (sR S) ≤ 999 := by
    rcases hw.hs with e | e
    · omega
    · exact e.2.2.2.1
  have cc : ¬ (1 : Int32) = 0 := by decide
  by_cases c0 : pn (sQ S) = 0 ∨ x < 0 ∨ nI 100 ≤ x
  · simp (disch := omega) only [fc11_year, PK h, bnd, sky_n h hn b6 c0, if_true, if_false, ↓reduceIte, and_true, true_and, and_false, false_and, not_true_eq_false, not_false_eq_true, and_self]
  · rcases nix x (n := 100) (by omega) with q | ⟨j, hj, rfl⟩
    · exact absurd (.inr q) c0
    · have hn0 : pn (sQ S) ≠ 0 := fun e => c0 (.inl e)
      have c3 : ¬ rt (sR S) < 999 := fun e => hx ⟨j, by omega, rfl, hn0, e⟩
      simp (disch := omega) only [fc11_year, PK h, bnd, sky_y h hn b6 (show 0 < pn (sQ S) by omega) (show j ≤ 99 by omega), cc, if_true, if_false, ↓reduceIte, and_true, true_and, and_false, false_and, not_true_eq_false, not_false_eq_true, and_self, qR, qI, l9, y999, nI_ltI, c3]
def acS (S : Sy) (r' : Rw) : Sy := withH S r' (sG S) (psh (sR S) (sA S)) (sI S)
theorem sell_c {S : Sy} (h : Sh σ) (hr : RC σ S) (hw : WS S) {i j m : Nat} (hi : i < pn (sQ S)) (hj : j < pn (sQ S)) (hij : i ≠ j) (h1 : 1 ≤ m) (hm : m ≤ 20) (hs : saleB (sR S) i j m = true) : ∃ σ' : Me, fc11_sell N 0 (nI i) (nI j) (nI m) σ = some (nI (rc (rSell (sR S) i j m) i), σ') ∧ Sh σ' ∧ Fr (hX (sB S)) σ σ' ∧ RC σ' (acS S (rSell (sR S) i j m)) ∧ WS (acS S (rSell (sR S) i j m)) := by
  have h0 : pn (sQ S) ≠ 0 := by omega
  obtain ⟨a1, a2, a3, a4, a5, a6, a7, a8⟩ := hw.hs.yes h0
  have b6 := a2.1
  have hL := hr.2.2.2.2.1.1
  obtain ⟨σ1, k1, k2, k3, k4, k5, k6, k7⟩ := keepH (N := N) h hr hw h0
  obtain ⟨σ2, d1, d2, d3⟩ := handOver_c (N := N) k2 (.inl rfl) k4 b6 a3 hi hj hij hm hs
  obtain ⟨e1, e2, e3, e4⟩ := actH h hr hw h0 k2 k3 k5 k6 k7 d2 d3 rfl (a3.sell hs)
  refine ⟨σ2, ?_, e1, e2, e3, e4⟩
  have cc : ¬ (1 : Int32) = 0 := by decide
  have isl := isSale_c (N := N) h (.inl rfl) hL b6 a3 hi hj hm
  rw [if_pos hs] at isl
  have ec := (d3.2.2.2.2.2 i hi).2.2.2.2
  simp (disch := omega) only [fc11_sell, PK h, bnd, pair_y h hL.1 b6 hi hj hij, cc, if_true, if_false, ↓reduceIte, and_true, true_and, and_false, false_and, not_true_eq_false, not_false_eq_true, and_self, some_y h1 hm, qR, isl, k1, PK k2, d1, PK e1, ldI_lo, A24 e1, nI_clamp, ec]
theorem sell_n {S : Sy} (h : Sh σ) (hr : RC σ S) (hw : WS S) {x y z : Int32} (hx : ¬ ∃ i j m : Nat, i < pn (sQ S) ∧ j < pn (sQ S) ∧ i ≠ j ∧ 1 ≤ m ∧ m ≤ 20 ∧ saleB (sR S) i j m = true ∧ x = nI i ∧ y = nI j ∧ z = nI m) : fc11_sell N 0 x y z σ = some (-1, σ) := by
  have b6 := hw.n6
  have hL := hr.2.2.2.2.1.1
  have cc : ¬ (1 : Int32) = 0 := by decide
  by_cases hp : ∃ i j : Nat, i < pn (sQ S) ∧ j < pn (sQ S) ∧ i ≠ j ∧ x = nI i ∧ y = nI j
  · obtain ⟨i, j, hi, hj, hij, rfl, rfl⟩ := hp
    by_cases hz : ∃ m : Nat, 1 ≤ m ∧ m ≤ 20 ∧ z = nI m
    · obtain ⟨m, h1, hm, rfl⟩ := hz
      obtain ⟨a1, a2, a3, -⟩ := hw.hs.yes (show pn (sQ S) ≠ 0 by omega)
      have isl := isSale_c (N := N) h (.inl rfl) hL b6 a3 hi hj hm
      by_cases hs : saleB (sR S) i j m = true
      · exact absurd ⟨i, j, m, hi, hj, hij, h1, hm, hs, rfl, rfl, rfl⟩ hx
      · rw [if_neg hs] at isl
        simp (disch := omega) only [fc11_sell, PK h, bnd, pair_y h hL.1 b6 hi hj hij, cc, if_true, if_false, ↓reduceIte, and_true, true_and, and_false, false_and, not_true_eq_false, not_false_eq_true, and_self, some_y h1 hm, qR, isl]
    · simp (disch := omega) only [fc11_sell, PK h, bnd, pair_y h hL.1 b6 hi hj hij, cc, if_true, if_false, ↓reduceIte, and_true, true_and, and_false, false_and, not_true_eq_false, not_false_eq_true, and_self, some_n hz]
  · simp (disch := omega) only [fc11_sell, PK h, bnd, pair_n h hL.1 b6 hp, if_true, if_false, ↓reduceIte, and_true, true_and, and_false, false_and, not_true_eq_false, not_false_eq_true, and_self]
theorem forgive_c {S : Sy} (h : Sh σ) (hr : RC σ S) (hw : WS S) {i m : Nat} (hi : i < pn (sQ S)) (h1 : 1 ≤ m) (hm : m ≤ 20) (hs : m ≤ ro (sR S) i) (hN : 10 ≤ N) : ∃ σ' : Me, fc11_forgive N 0 (nI i) (nI m) σ = some (nI (ro (rMist (sR S) i m) i), σ') ∧ Sh σ' ∧ Fr (hX (sB S)) σ σ' ∧ RC σ' (acS S (rMist (sR S) i m)) ∧ WS (acS S (rMist (sR S) i m)) := by
  have h0 : pn (sQ S) ≠ 0 := by omega
  obtain ⟨a1, a2, a3, a4, a5, a6, a7, a8⟩ := hw.hs.yes h0
  have b6 := a2.1
  have hL := hr.2.2.2.2.1.1
  obtain ⟨σ1, k1, k2, k3, k4, k5, k6, k7⟩ := keepH (N := N) h hr hw h0
  obtain ⟨σ2, d1, d2, d3⟩ := mist_c (N := N) k2 (.inl rfl) k4 b6 a3 hi hs hN
  obtain ⟨e1, e2, e3, e4⟩ := actH h hr hw h0 k2 k3 k5 k6 k7 d2 d3 rfl (a3.mist hi)
  refine ⟨σ2, ?_, e1, e2, e3, e4⟩
  have cc : ¬ (1 : Int32) = 0 := by decide
  have ec := (d3.2.2.2.2.2 i hi).1
  simp (disch := omega) only [fc11_forgive, PK h, bnd, qR, isMist_y h (.inl rfl) hL b6 a3 hi h1 hm hs, cc, if_true, if_false, ↓reduceIte, and_true, true_and, and_false, false_and, not_true_eq_false, not_false_eq_true, and_self, k1, PK k2, d1, PK e1, ldI_lo, A20 e1, nI_clamp, ec]
theorem forgive_n {S : Sy} (h : Sh σ) (hr : RC σ S) (hw : WS S) {x y : Int32} (hx : ¬ ∃ i m : Nat, i < pn (sQ S) ∧ 1 ≤ m ∧ m ≤ 20 ∧ m ≤ ro (sR S) i ∧ x = nI i ∧ y = nI m) : fc11_forgive N 0 x y σ = some (-1, σ) := by
  have b6 := hw.n6
  have hL := hr.2.2.2.2.1.1
  by_cases h0 : pn (sQ S) = 0
  · have hn := hL.1
    rw [h0] at hn
    have q : x < 0 ∨ nI 0 ≤ x := by
      rcases nix x (n := 0) (by omega) with q | ⟨j, hj, -⟩
      · exact q
      · omega
    simp (disch := omega) only [fc11_forgive, fc2_isMist, PK h, bnd, qR, has_n h (.inl rfl) hn q, if_true, if_false, ↓reduceIte, and_true, true_and, and_false, false_and, not_true_eq_false, not_false_eq_true, and_self, retZ0]
  · obtain ⟨a1, a2, a3, -⟩ := hw.hs.yes h0
    simp (disch := omega) only [fc11_forgive, PK h, bnd, qR, isMist_n h (.inl rfl) hL b6 a3 hx, if_true, if_false, ↓reduceIte, and_true, true_and, and_false, false_and, not_true_eq_false, not_false_eq_true, and_self]
theorem hedge_cc {S : Sy} (h : Sh σ) (hr : RC σ S) (hw : WS S) {i : Nat} (hi : i + 1 < pn (sQ S)) (hs : hedgeB (sR S) i = true) : ∃ σ' : Me, fc11_hedge N 0 (nI i) σ = some (nI (ro (rHedge (sR S) i) i), σ') ∧ Sh σ' ∧ Fr (hX (sB S)) σ σ' ∧ RC σ' (acS S (rHedge (sR S) i)) ∧ WS (acS S (rHedge (sR S) i)) := by
  have h0 : pn (sQ S) ≠ 0 := by omega
  obtain ⟨a1, a2, a3, a4, a5, a6, a7, a8⟩ := hw.hs.yes h0
  have b6 := a2.1
  have hL := hr.2.2.2.2.1.1
  obtain ⟨σ1, k1, k2, k3, k4, k5, k6, k7⟩ := keepH (N := N) h hr hw h0
  obtain ⟨σ2, d1, d2, d3⟩ := hedge_c (N := N) k2 (.inl rfl) k4 b6 hi
  obtain ⟨e1, e2, e3, e4⟩ := actH h hr hw h0 k2 k3 k5 k6 k7 d2 d3 rfl (a3.hedge hi)
  refine ⟨σ2, ?_, e1, e2, e3, e4⟩
  have cc : ¬ (1 : Int32) = 0 := by decide
  have ih := isHedge_c (N := N) h (.inl rfl) hL b6 a3 hi
  rw [if_pos hs] at ih
  have ec := (d3.2.2.2.2.2 i (by omega)).1
  simp (disch := omega) only [fc11_hedge, PK h, bnd, qR, ih, cc, if_true, if_false, ↓reduceIte, and_true, true_and, and_false, false_and, not_true_eq_false, not_false_eq_true, and_self, k1, PK k2, d1, PK e1, ldI_lo, A20 e1, nI_clamp, ec]
theorem hedge_n {S : Sy} (h : Sh σ) (hr : RC σ S) (hw : WS S) {x : Int32} (hx : ¬ ∃ i : Nat, i + 1 < pn (sQ S) ∧ hedgeB (sR S) i = true ∧ x = nI i) : fc11_hedge N 0 x σ = some (-1, σ) := by
  have b6 := hw.n6
  have hL := hr.2.2.2.2.1.1
  by_cases hp : ∃ i : Nat, i + 1 < pn (sQ S) ∧ x = nI i
  · obtain ⟨i, hi, rfl⟩ := hp
    obtain ⟨a1, a2, a3, -⟩ := hw.hs.yes (show pn (sQ S) ≠ 0 by omega)
    have ih := isHedge_c (N := N) h (.inl rfl) hL b6 a3 hi
    rw [if_neg (fun e => hx ⟨i, hi, e, rfl⟩)] at ih
    simp (disch := omega) only [fc11_hedge, PK h, bnd, qR, ih, if_true, if_false, ↓reduceIte, and_true, true_and, and_false, false_and, not_true_eq_false, not_false_eq_true, and_self]
  · simp (disch := omega) only [fc11_hedge, PK h, bnd, qR, isHedge_n h (.inl rfl) hL b6 hp, if_true, if_false, ↓reduceIte, and_true, true_and, and_false, false_and, not_true_eq_false, not_false_eq_true, and_self]
theorem can_cc {S : Sy} (h : Sh σ) (hr : RC σ S) (hw : WS S) {i : Nat} (hi : i < pn (sQ S)) (hs : canB (sR S) i = true) : ∃ σ' : Me, fc11_can N 0 (nI i) σ = some (nI (rw_ (rCan (sR S) i) i), σ') ∧ Sh σ' ∧ Fr (hX (sB S)) σ σ' ∧ RC σ' (acS S (rCan (sR S) i)) ∧ WS (acS S (rCan (sR S) i)) := by
  have h0 : pn (sQ S) ≠ 0 := by omega
  obtain ⟨a1, a2, a3, a4, a5, a6, a7, a8⟩ := hw.hs.yes h0
  have b6 := a2.1
  have hL := hr.2.2.2.2.1.1
  obtain ⟨σ1, k1, k2, k3, k4, k5, k6, k7⟩ := keepH (N := N) h hr hw h0
  obtain ⟨σ2, d1, d2, d3⟩ := can_c (N := N) k2 (.inl rfl) k4 b6 a3 hi hs
  obtain ⟨e1, e2, e3, e4⟩ := actH h hr hw h0 k2 k3 k5 k6 k7 d2 d3 rfl (a3.can hi)
  refine ⟨σ2, ?_, e1, e2, e3, e4⟩
  have cc : ¬ (1 : Int32) = 0 := by decide
  have ih := isCan_c (N := N) h (.inl rfl) hL b6 a3 hi
  rw [if_pos hs] at ih
  have ec := (d3.2.2.2.2.2 i hi).2.2.1
  simp (disch := omega) only [fc11_can, PK h, bnd, qR, ih, cc, if_true, if_false, ↓reduceIte, and_true, true_and, and_false, false_and, not_true_eq_false, not_false_eq_true, and_self, k1, PK k2, d1, PK e1, ldI_lo, A22 e1, nI_clamp, ec]
theorem can_n {S : Sy} (h : Sh σ) (hr : RC σ S) (hw : WS S) {x : Int32} (hx : ¬ ∃ i : Nat, i < pn (sQ S) ∧ canB (sR S) i = true ∧ x = nI i) : fc11_can N 0 x σ = some (-1, σ) := by
  have b6 := hw.n6
  have hL := hr.2.2.2.2.1.1
  rcases nix x (n := pn (sQ S)) (by omega) with q | ⟨i, hi, rfl⟩
  · simp (disch := omega) only [fc11_can, PK h, bnd, qR, isCan_n h (.inl rfl) hL b6 q, if_true, if_false, ↓reduceIte, and_true, true_and, and_false, false_and, not_true_eq_false, not_false_eq_true, and_self]
  · obtain ⟨a1, a2, a3, -⟩ := hw.hs.yes (show pn (sQ S) ≠ 0 by omega)
    have ih := isCan_c (N := N) h (.inl rfl) hL b6 a3 hi
    rw [if_neg (fun e => hx ⟨i, hi, e, rfl⟩)] at ih
    simp (disch := omega) only [fc11_can, PK h, bnd, qR, ih, if_true, if_false, ↓reduceIte, and_true, true_and, and_false, false_and, not_true_eq_false, not_false_eq_true, and_self]
def rPrice (r : Rw) (v : Nat) : Rw := (ro r, rn r, rw_ r, rc r, v, rt r)
theorem price_c {S : Sy} (h : Sh σ) (hr : RC σ S) (hw : WS S) (h0 : pn (sQ S) ≠ 0) {v : Nat} (hv : v ≤ 30) (hne : v ≠ rp (sR S)) : ∃ σ' : Me, fc11_price N 0 (nI v) σ = some (nI (rp (sR S)), σ') ∧ Sh σ' ∧ Fr (hX (sB S)) σ σ' ∧ RC σ' (acS S (rPrice (sR S) v)) ∧ WS (acS S (rPrice (sR S) v)) := by
  obtain ⟨a1, a2, a3, a4, a5, a6, a7, a8⟩ := hw.hs.yes h0
  have b6 := a2.1
  have hL := hr.2.2.2.2.1.1
  obtain ⟨σ1, k1, k2, k3, k4, k5, k6, k7⟩ := keepH (N := N) h hr hw h0
  have d2 : Fr (ldS 19) σ1 (setI σ1 19 8 (nI v)) := fr_I rfl (Fr.rf _ _)
  have d3 : LdC (setI σ1 19 8 (nI v)) 19 (sQ S) (rPrice (sR S) v) := by
    obtain ⟨l5, l6, l7, l8, l9, lf⟩ := k4
    exact ⟨l5, l6, l7, mi_eq _ _ _ _, l9, lf⟩
  obtain ⟨e1, e2, e3, e4⟩ := actH h hr hw h0 k2 k3 k5 k6 k7 d2 d3 rfl ⟨hv, a3.2.1, a3.2.2⟩
  refine ⟨_, ?_, e1, e2, e3, e4⟩
  have cc : ¬ pn (sQ S) = 0 := h0
  have c0 : ¬ nI (pn (sQ S)) = 0 := nI_ne0 (by omega) (by omega)
  have c1 := nI_pos (n := v) (by omega)
  have c2 : ¬ 30 < v := by omega
  have hp := a3.1
  simp (disch := omega) only [fc11_price, PK h, bnd, qR, qI, hL.1, c0, c1, y30, nI_ltI, c2, hL.2.2.2.1, nI_eq, hne, if_true, if_false, ↓reduceIte, and_true, true_and, and_false, false_and, not_true_eq_false, not_false_eq_true, and_self, k1, PK k2, k4.2.2.2.1, pI]
theorem price_n {S : Sy} (h : Sh σ) (hr : RC σ S) (hw : WS S) {x : Int32} (hx : ¬ ∃ v : Nat, pn (sQ S) ≠ 0 ∧ v ≤ 30 ∧ v ≠ rp (sR S) ∧ x = nI v) : fc11_price N 0 x σ = some (-1, σ) := by
  have b6 := hw.n6
  have hL := hr.2.2.2.2.1.1
  by_cases h0 : pn (sQ S) = 0
  · have hn := hL.1
    rw [h0] at hn
    simp (disch := omega) only [fc11_price, PK h, bnd, qR, qI, hn, nI_0, if_true, if_false, ↓reduceIte, and_true, true_and, and_false, false_and, not_true_eq_false, not_false_eq_true, and_self]
  · have c0 : ¬ nI (pn (sQ S)) = 0 := nI_ne0 (by omega) (by omega)
    obtain ⟨a1, a2, a3, -⟩ := hw.hs.yes h0
    have hp := a3.1
    by_cases c1 : x < 0
    · simp (disch := omega) only [fc11_price, PK h, bnd, qR, qI, hL.1, c0, c1, if_true, if_false, ↓reduceIte, and_true, true_and, and_false, false_and, not_true_eq_false, not_false_eq_true, and_self]
    · by_cases c2 : (30 : Int32) < x
      · simp (disch := omega) only [fc11_price, PK h, bnd, qR, qI, hL.1, c0, c1, c2, if_true, if_false, ↓reduceIte, and_true, true_and, and_false, false_and, not_true_eq_false, not_false_eq_true, and_self]
      · obtain ⟨v, hv, rfl⟩ := nI_of c1
        have c3 : v = rp (sR S) := by
          rw [y30, nI_ltI (by decide) hv] at c2
          rcases Nat.decEq v (rp (sR S)) with e | e
          · exact absurd ⟨v, h0, by omega, e, rfl⟩ hx
          · exact e
        subst c3
        simp (disch := omega) only [fc11_price, PK h, bnd, qR, qI, hL.1, c0, c1, c2, hL.2.2.2.1, if_true, if_false, ↓reduceIte, and_true, true_and, and_false, false_and, not_true_eq_false, not_false_eq_true, and_self]
/-! undone, pictured -/
theorem undo_c {S : Sy} (h : Sh σ) (hr : RC σ S) (hw : WS S) {a : Rw} {as : List Rw} (ha : sA S = a :: as) : ∃ σ' : Me, fc11_undo N 0 σ = some (nI as.length, σ') ∧ Sh σ' ∧ Fr (hX (sB S)) σ σ' ∧ RC σ' (withH S a (sG S) as (sI S)) ∧ WS (withH S a (sG S) as (sI S)) := by
  have h0 : pn (sQ S) ≠ 0 := by
    rcases hw.hs with e | e
    · rw [ha] at e; exact absurd e.2.2.1 (by simp)
    · omega
  obtain ⟨a1, a2, a3, a4, a5, a6, a7, a8⟩ := hw.hs.yes h0
  have b6 := a2.1
  obtain ⟨h5, h6, h7, h8⟩ := hr.2.2.2.2.1
  rw [ha] at h6 a5 a6 a7 h7
  rw [List.length_cons] at a6
  obtain ⟨σ1, r1, r2, r3, r4⟩ := restore_c (N := N) h h5 b6 h6 (by omega)
  have fr : Fr (hX (sB S)) σ σ1 := r2.mono (fun x j e => by
    simp only [hX, reS, rdS, cX, Bool.or_eq_false_iff, Bool.and_eq_false_iff, decide_eq_false_iff_not, beq_eq_false_iff_ne] at e ⊢
    omega)
  have hs := fr.sh (hX_f _) h
  refine ⟨σ1, ?_, hs, fr, hr.hs fr (bOf_ok _ _) ⟨r3, r4, ?_, h8.fr r2 b6 rfl (fun _ => ⟨rfl, rfl, rfl, rfl⟩)⟩, hw.hs' (.inr ⟨a1, a2, (a7 a List.mem_cons_self).1, (a7 a List.mem_cons_self).2, a5.2.2, by omega, fun x hx => a7 x (List.mem_cons_of_mem _ hx), a8⟩)⟩
  · obtain ⟨nx, -, -, k3, -⟩ := r4
    have cc : ¬ (1 : Int32) = 0 := by decide
    simp (disch := omega) only [fc11_undo, qR, qI, PK h, bnd, r1, cc, if_true, if_false, ↓reduceIte, and_true, true_and, and_false, false_and, not_true_eq_false, not_false_eq_true, and_self, PK hs, k3]
  · have h9 := h7.fr r2 (fun _ => ⟨rfl, rfl, rfl⟩)
    exact h9.mono (Nat.le_refl _) a5.1
theorem undo_n {S : Sy} (h : Sh σ) (hr : RC σ S) (ha : sA S = []) : fc11_undo N 0 σ = some (-1, σ) := by
  have h6 := hr.2.2.2.2.1.2.1
  rw [ha] at h6
  have e := restore0_c (N := N) h h6
  simp (disch := omega) only [fc11_undo, qR, PK h, bnd, e, if_true, if_false, ↓reduceIte, and_true, true_and, and_false, false_and, not_true_eq_false, not_false_eq_true, and_self]
theorem image_c {S : Sy} (h : Sh σ) (hr : RC σ S) (hw : WS S) (h0 : pn (sQ S) ≠ 0) : ∃ σ' : Me, fc11_image N 0 σ = some (nI (rt (sR S)), σ') ∧ Sh σ' ∧ Fr (hX (sB S)) σ σ' ∧ RC σ' (withH S (sR S) (sG S) (sA S) (some (sR S, sG S))) ∧ WS (withH S (sR S) (sG S) (sA S) (some (sR S, sG S))) := by
  obtain ⟨a1, a2, a3, a4, a5, a6, a7, a8⟩ := hw.hs.yes h0
  have b6 := a2.1
  obtain ⟨h5, h6, h7, h8⟩ := hr.2.2.2.2.1
  obtain ⟨σ1, w1, w2, w3⟩ := writeTo_c (N := N) h (R := 43) (M := 26) (o := 0) (.inr ⟨rfl, rfl⟩) (by omega)
  have s1 : Sh σ1 := w2.sh (by
    have h : ∀ q ∈ rfL, rwS 43 0 q.1.1 q.1.2 = false := by decide +kernel
    exact h) h
  obtain ⟨σ2, c1, c2, c3⟩ := copyChr_c (N := N) s1 (a := 44) (b := 37) (.inr ⟨rfl, rfl⟩)
  have s2 : Sh σ2 := c2.sh (by
    have h : ∀ q ∈ rfL, (fun x _ : Nat => decide (44 < x) && decide (x ≤ 44 + 3)) q.1.1 q.1.2 = false := by decide +kernel
    exact h) s1
  have f3 : Fr (fun a j => a == 41 && j == 5) σ2 (setI σ2 41 5 (nI 1)) := fr_I rfl (Fr.rf _ _)
  have fr : Fr (hX (sB S)) σ (setI σ2 41 5 (nI 1)) := by
    refine ((w2.mono (fun x j e => ?_)).tr (c2.mono (fun x j e => ?_))).tr (f3.mono (fun x j e => ?_))
    · simp only [hX, rwS, cX, Bool.or_eq_false_iff, Bool.and_eq_false_iff, decide_eq_false_iff_not, beq_eq_false_iff_ne] at e ⊢
      omega
    · simp only [hX, cX, Bool.or_eq_false_iff, Bool.and_eq_false_iff, decide_eq_false_iff_not, beq_eq_false_iff_ne] at e ⊢
      omega
    · simp only [hX, cX, Bool.or_eq_false_iff, Bool.and_eq_false_iff, decide_eq_false_iff_not, beq_eq_false_iff_ne] at e ⊢
      omega
  have hs := fr.sh (hX_f _) h
  have i43 : ∀ j, rwS 43 0 19 j = false := fun j => rfl
  have hL1 := h5.fr w2 (fun _ => ⟨rfl, rfl, rfl, rfl, rfl, rfl⟩)
  have hL2 := hL1.fr c2 (fun _ => ⟨rfl, rfl, rfl, rfl, rfl, rfl⟩)
  have hL3 := hL2.fr f3 (fun _ => ⟨rfl, rfl, rfl, rfl, rfl, rfl⟩)
  have hR := w3 _ _ h5 b6
  have hC := c3 _ _ _ (h7.fr w2 (fun _ => ⟨rfl, rfl, rfl⟩))
  refine ⟨_, ?_, hs, fr, hr.hs fr (bOf_ok _ _) ⟨hL3, ?_, ?_, ?_⟩, hw.hs' (.inr ⟨a1, a2, a3, a4, a5, a6, a7, fun q e => by cases e; exact ⟨a3, a4⟩⟩)⟩
  · have c0 : ¬ nI (pn (sQ S)) = 0 := nI_ne0 (by omega) (by omega)
    rw [← y0] at w1
    have pz : pZ σ2 5 5 (some 41) 1 = some (setI σ2 41 5 (nI 1)) := by
      unfold pZ
      rw [if_pos (.inr rfl), s2.dr 41 (by decide) (k := .inl 5) rfl, bnd]
      rfl
    have kp : fc5_keepImage N 41 (some 19) (some 37) σ = some ((), setI σ2 41 5 (nI 1)) := by
      simp (disch := omega) only [fc5_keepImage, qR, PH h, bnd, w1, PH s1, c1, pz]
    have l9 : mi (setI σ2 41 5 (nI 1)) 19 9 = nI (rt (sR S)) := hL3.2.2.2.2.1
    simp (disch := omega) only [fc11_image, qR, qI, PK h, bnd, h5.1, c0, if_true, if_false, ↓reduceIte, and_true, true_and, and_false, false_and, not_true_eq_false, not_false_eq_true, and_self, kp, PK hs, l9]
  · exact ((h6.fr w2 b6 rfl rfl (fun _ => rfl)).fr c2 b6 rfl rfl (fun _ => rfl)).fr f3 b6 rfl rfl (fun _ => rfl)
  · exact ((h7.fr w2 (fun _ => ⟨rfl, rfl, rfl⟩)).fr c2 (fun _ => ⟨rfl, rfl, rfl⟩)).fr f3 (fun _ => ⟨rfl, rfl, rfl⟩)
  · refine ⟨mi_eq _ _ _ _, (hR.fr c2 b6 (fun _ _ _ => rfl)).fr f3 b6 (fun _ _ _ => rfl), ?_⟩
    have hy := (yb_le a5).1
    exact (hC.fr f3 (fun _ => ⟨rfl, rfl, rfl⟩)).mono (by show _ - 60 ≤ rt (sR S) - 60; omega) (Nat.le_refl _)
theorem image_n {S : Sy} (h : Sh σ) (hr : RC σ S) (h0 : pn (sQ S) = 0) : fc11_image N 0 σ = some (-1, σ) := by
  have hn := hr.2.2.2.2.1.1.1
  rw [h0] at hn
  simp (disch := omega) only [fc11_image, qR, qI, PK h, bnd, hn, nI_0, if_true, if_false, ↓reduceIte, and_true, true_and, and_false, false_and, not_true_eq_false, not_false_eq_true, and_self]
theorem back_c {S : Sy} (h : Sh σ) (hr : RC σ S) (hw : WS S) {p : Rw × Lg} (hp : sI S = some p) : ∃ σ' : Me, fc11_back N 0 σ = some (nI (rt p.1), σ') ∧ Sh σ' ∧ Fr (hX (sB S)) σ σ' ∧ RC σ' (withH S p.1 p.2 [] (some p)) ∧ WS (withH S p.1 p.2 [] (some p)) := by
  have h0 : pn (sQ S) ≠ 0 := by
    rcases hw.hs with e | e
    · rw [hp] at e; exact absurd e.2.2.2 (by simp)
    · omega
  obtain ⟨a1, a2, a3, a4, a5, a6, a7, a8⟩ := hw.hs.yes h0
  have b6 := a2.1
  obtain ⟨h5, h6, h7, h8⟩ := hr.2.2.2.2.1
  rw [hp] at h8
  obtain ⟨i1, i2, i3⟩ := h8
  obtain ⟨σ1, w1, w2, w3⟩ := readFrom_c (N := N) h (R := 43) (M := 26) (o := 0) (.inr ⟨rfl, rfl⟩) (by omega)
  have s1 : Sh σ1 := w2.sh (by
    have h : ∀ q ∈ rfL, rdS q.1.1 q.1.2 = false := by decide +kernel
    exact h) h
  obtain ⟨σ2, c1, c2, c3⟩ := copyChr_c (N := N) s1 (a := 37) (b := 44) (.inl ⟨rfl, rfl⟩)
  have s2 : Sh σ2 := c2.sh (by
    have h : ∀ q ∈ rfL, (fun x _ : Nat => decide (37 < x) && decide (x ≤ 37 + 3)) q.1.1 q.1.2 = false := by decide +kernel
    exact h) s1
  have f3 : Fr (fun a j => a == 41 && j == 2) σ2 (setI σ2 41 2 (nI 0)) := fr_I rfl (Fr.rf _ _)
  have fr : Fr (hX (sB S)) σ (setI σ2 41 2 (nI 0)) := by
    refine ((w2.mono (fun x j e => ?_)).tr (c2.mono (fun x j e => ?_))).tr (f3.mono (fun x j e => ?_))
    · simp only [hX, rdS, cX, Bool.or_eq_false_iff, Bool.and_eq_false_iff, decide_eq_false_iff_not, beq_eq_false_iff_ne] at e ⊢
      omega
    · simp only [hX, cX, Bool.or_eq_false_iff, Bool.and_eq_false_iff, decide_eq_false_iff_not, beq_eq_false_iff_ne] at e ⊢
      omega
    · simp only [hX, cX, Bool.or_eq_false_iff, Bool.and_eq_false_iff, decide_eq_false_iff_not, beq_eq_false_iff_ne] at e ⊢
      omega
  have hs := fr.sh (hX_f _) h
  have hL1 := w3 _ _ p.1 h5 b6 i2
  have hL3 := (hL1.fr c2 (fun _ => ⟨rfl, rfl, rfl, rfl, rfl, rfl⟩)).fr f3 (fun _ => ⟨rfl, rfl, rfl, rfl, rfl, rfl⟩)
  have hC := c3 _ _ _ (i3.fr w2 (fun _ => ⟨rfl, rfl, rfl⟩))
  obtain ⟨nx, n1, n2, n3, n4⟩ := h6
  refine ⟨_, ?_, hs, fr, hr.hs fr (bOf_ok _ _) ⟨hL3, ⟨nx, n1, ?_, mi_eq _ _ _ _, fun i a e => by cases e⟩, hC.fr f3 (fun _ => ⟨rfl, rfl, rfl⟩), ?_⟩, hw.hs' (.inr ⟨a1, a2, (a8 p hp).1, (a8 p hp).2, trivial, by simp, (fun x hx => absurd hx (by simp)), (fun q e => by cases e; exact a8 p hp)⟩)⟩
  · have c0 : ¬ (1 : Int32) = 0 := by decide
    rw [← y1] at i1
    rw [← y0] at w1
    have kp : fc5_bringImage N 41 (some 19) (some 37) σ = some (1, setI σ2 41 2 (nI 0)) := by
      simp (disch := omega) only [fc5_bringImage, qR, qI, PH h, bnd, i1, c0, if_true, if_false, ↓reduceIte, and_true, true_and, and_false, false_and, not_true_eq_false, not_false_eq_true, and_self, w1, PH s1, c1, pI, PH s2, retZ1]
      rfl
    have l9 : mi (setI σ2 41 2 (nI 0)) 19 9 = nI (rt p.1) := hL3.2.2.2.2.1
    simp (disch := omega) only [fc11_back, qR, qI, PK h, bnd, kp, c0, if_true, if_false, ↓reduceIte, and_true, true_and, and_false, false_and, not_true_eq_false, not_false_eq_true, and_self, PK hs, l9]
  · rw [mi_ne _ _ (by omega), c2.i rfl, w2.i rfl]; exact n2
  · refine ⟨?_, ((i2.fr w2 b6 (fun _ _ _ => rfl)).fr c2 b6 (fun _ _ _ => rfl)).fr f3 b6 (fun _ _ _ => rfl), ((i3.fr w2 (fun _ => ⟨rfl, rfl, rfl⟩)).fr c2 (fun _ => ⟨rfl, rfl, rfl⟩)).fr f3 (fun _ => ⟨rfl, rfl, rfl⟩)⟩
    rw [mi_ne _ _ (by omega), c2.i rfl, w2.i rfl]; exact i1
theorem back_n {S : Sy} (h : Sh σ) (hr : RC σ S) (hp : sI S = none) : fc11_back N 0 σ = some (-1, σ) := by
  have h8 := hr.2.2.2.2.1.2.2.2
  rw [hp] at h8
  have h8 : mi σ 41 5 = nI 0 := h8
  have kp : fc5_bringImage N 41 (some 19) (some 37) σ = some (0, σ) := by
    simp (disch := omega) only [fc5_bringImage, qI, PH h, bnd, h8, nI_0, if_true, if_false, ↓reduceIte, and_true, true_and, and_false, false_and, not_true_eq_false, not_false_eq_true, and_self, retZ0]
  simp (disch := omega) only [fc11_back, qR, PK h, bnd, kp, if_true, if_false, ↓reduceIte, and_true, true_and, and_false, false_and, not_true_eq_false, not_false_eq_true, and_self]
end DS
