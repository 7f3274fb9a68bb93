/-! the reference goes through a law -/
def bad (c : Nat) : Bool := decide (c = 59) || cndB c
/-- no sign of a sum ends a clause or makes it one with a condition -/
def Cln (T : Tx) (p : Nat) (x : Pr) : Prop := ∀ z, x = .inr z → ∀ i, p ≤ i → i < z.1 → bad (chr T i) = false
def ClnX (T : Tx) (X : Nat → Pr) : Prop := ∀ p, Cln T p (X p)
theorem bad_bl {c : Nat} (h : c = 32) : bad c = false := by subst h; decide
theorem bad_dg {c : Nat} (h : isD c = true) : bad c = false := by
  have := isD_le h
  simp only [bad, cndB, oC_, Bool.or_eq_false_iff, decide_eq_false_iff_not]
  omega
theorem nx_cl {T : Tx} {p i : Nat} (h1 : p ≤ i) (h2 : i < nx T p) : bad (chr T i) = false := bad_bl (nx_bl h1 h2)
theorem dgN_cl (T : Tx) : ∀ (m p v i : Nat), p ≤ i → i < (dgN T m p v).1 → isD (chr T i) = true
  | 0, p, v, i, h1, h2 => by unfold dgN at h2; simp only at h2; omega
  | m + 1, p, v, i, h1, h2 => by
    unfold dgN at h2
    by_cases c : isD (chr T p) = true
    · rw [if_pos c] at h2
      by_cases e : i = p
      · rw [e]; exact c
      · exact dgN_cl T m (p + 1) _ i (by omega) h2
    · rw [if_neg c] at h2; simp only at h2; omega
theorem pAtom_cl {T : Tx} {R : Option (Nat → Pr)} (hR : ∀ X, R = some X → ClnX T X) : ClnX T (pAtom T R) := by
  intro p z e i h1 h2
  rcases Nat.lt_or_ge i (nx T p) with c | c
  · exact nx_cl h1 c
  · have e : pAtm T R (nx T p) = .inr z := e
    unfold pAtm at e
    by_cases c1 : chr T (nx T p) = 91
    · rw [if_pos c1] at e
      cases hRe : R with
      | none => rw [hRe] at e; cases e
      | some X =>
        rw [hRe] at e
        have e : thn (X (nx T p + 1)) (pCl T 93) = .inr z := e
        cases hX : X (nx T p + 1) with
        | inl f => rw [hX] at e; cases e
        | inr y =>
          rw [hX] at e
          have e : pCl T 93 y.1 y.2 = .inr z := e
          unfold pCl at e
          by_cases c2 : chr T (nx T y.1) = 93
          · rw [if_pos c2] at e
            cases e
            simp only at h2
            by_cases k1 : i = nx T p
            · rw [k1, c1]; decide
            · rcases Nat.lt_or_ge i y.1 with k2 | k2
              · exact hR X hRe (nx T p + 1) y hX i (by omega) k2
              · rcases Nat.lt_or_ge i (nx T y.1) with k3 | k3
                · exact nx_cl k2 k3
                · have : i = nx T y.1 := by omega
                  rw [this, c2]; decide
          · rw [if_neg c2] at e; cases e
    · rw [if_neg c1] at e
      by_cases c2 : ltrI (chr T (nx T p)) ≠ 0
      · rw [if_pos c2] at e
        cases e
        simp only at h2
        have : i = nx T p := by omega
        rw [this]
        cases w : bad (chr T (nx T p)) with
        | false => rfl
        | true =>
          exfalso
          apply c2
          simp only [bad, cndB, oC_, Bool.or_eq_true, decide_eq_true_eq] at w
          unfold ltrI
          repeat rw [if_neg (by omega)]
      · rw [if_neg c2] at e
        by_cases c3 : isD (chr T (nx T p)) = true
        · rw [if_pos c3] at e
          unfold pNum at e
          by_cases c4 : isD (chr T (dgN T 4 (nx T p) 0).1) = true
          · rw [if_pos c4] at e; cases e
          · rw [if_neg c4] at e
            cases e
            exact bad_dg (dgN_cl T 4 _ _ i c h2)
        · rw [if_neg c3] at e; cases e
theorem pLoop_cl {T : Tx} {ops : Nat → Bool} (hb : ∀ c, ops c = true → bad c = false) {X : Nat → Pr} (hX : ClnX T X) {p0 : Nat} : ∀ (m p : Nat) (C : List Ci), (∀ i, p0 ≤ i → i < p → bad (chr T i) = false) → Cln T p0 (pLoop T ops X m p C)
  | 0, p, C, h, z, e, i, h1, h2 => by
    cases e
    rcases Nat.lt_or_ge i p with c | c
    · exact h i h1 c
    · exact nx_cl c h2
  | m + 1, p, C, h, z, e, i, h1, h2 => by
    have hnx : ∀ i, p0 ≤ i → i < nx T p → bad (chr T i) = false := fun i h1 h2 => by
      rcases Nat.lt_or_ge i p with c | c
      · exact h i h1 c
      · exact nx_cl c h2
    unfold pLoop at e
    by_cases c1 : ops (chr T (nx T p)) = true
    · rw [if_pos c1] at e
      cases hXe : X (nx T p + 1) with
      | inl f => rw [hXe] at e; cases e
      | inr y =>
        rw [hXe] at e
        refine pLoop_cl hb hX m y.1 _ (fun i h1 h2 => ?_) z e i h1 h2
        rcases Nat.lt_or_ge i (nx T p) with k1 | k1
        · exact hnx i h1 k1
        · by_cases k2 : i = nx T p
          · rw [k2]; exact hb _ c1
          · exact hX (nx T p + 1) y hXe i (by omega) h2
    · rw [if_neg c1] at e
      cases e
      exact hnx i h1 h2
theorem pChain_cl {T : Tx} {ops : Nat → Bool} (hb : ∀ c, ops c = true → bad c = false) {X : Nat → Pr} (hX : ClnX T X) : ClnX T (pChain T ops X) := by
  intro p z e i h1 h2
  unfold pChain at e
  cases hXe : X p with
  | inl f => rw [hXe] at e; cases e
  | inr y =>
    rw [hXe] at e
    exact pLoop_cl hb hX 240 y.1 _ (fun i h1 h2 => hX p y hXe i h1 h2) z e i h1 h2
theorem pSum_cl (T : Tx) : ∀ d, ClnX T (pSum T d) := by
  have h1 : ∀ c, oM c = true → bad c = false := fun c h => by
    simp only [oM, Bool.or_eq_true, decide_eq_true_eq] at h
    rcases h with rfl | rfl <;> decide
  have h2 : ∀ c, oA_ c = true → bad c = false := fun c h => by
    simp only [oA_, Bool.or_eq_true, decide_eq_true_eq] at h
    rcases h with rfl | rfl <;> decide
  intro d
  induction d with
  | zero => exact pChain_cl h2 (pChain_cl h1 (pAtom_cl (fun X e => by cases e)))
  | succ d ih => exact pChain_cl h2 (pChain_cl h1 (pAtom_cl (fun X e => by cases e; exact ih)))
theorem pLoop_nx {T : Tx} {ops : Nat → Bool} {X : Nat → Pr} : ∀ (m p : Nat) (C : List Ci) (z : Nat × List Ci), pLoop T ops X m p C = .inr z → nx T z.1 = z.1
  | 0, p, C, z, e => by cases e; exact nx_nx T p
  | m + 1, p, C, z, e => by
    unfold pLoop at e
    by_cases c1 : ops (chr T (nx T p)) = true
    · rw [if_pos c1] at e
      cases hXe : X (nx T p + 1) with
      | inl f => rw [hXe] at e; cases e
      | inr y =>
        rw [hXe] at e
        exact pLoop_nx m y.1 _ z e
    · rw [if_neg c1] at e
      cases e
      exact nx_nx T p
theorem pChain_nx {T : Tx} {ops : Nat → Bool} {X : Nat → Pr} {p : Nat} {z : Nat × List Ci} (e : pChain T ops X p = .inr z) : nx T z.1 = z.1 := by
  unfold pChain at e
  cases hXe : X p with
  | inl f => rw [hXe] at e; cases e
  | inr y =>
    rw [hXe] at e
    exact pLoop_nx 240 y.1 _ z e
theorem pSum_nx (T : Tx) (d p : Nat) : ∀ z, pSum T d p = .inr z → nx T z.1 = z.1 := fun z e => by
  rw [pSum_eq] at e
  exact pChain_nx e
theorem cnd_y {T : Tx} : ∀ (m p : Nat), cnd T m p = true → ∃ q, p ≤ q ∧ cndB (chr T q) = true ∧ ∀ i, p ≤ i → i < q → bad (chr T i) = false
  | 0, p, h => by cases h
  | m + 1, p, h => by
    unfold cnd at h
    by_cases c1 : chr T p = 59
    · rw [if_pos c1] at h; cases h
    · rw [if_neg c1] at h
      by_cases c2 : cndB (chr T p) = true
      · exact ⟨p, Nat.le_refl _, c2, fun i h1 h2 => by omega⟩
      · rw [if_neg c2] at h
        obtain ⟨q, q1, q2, q3⟩ := cnd_y m (p + 1) h
        refine ⟨q, by omega, q2, fun i h1 h2 => ?_⟩
        by_cases e : i = p
        · rw [e]
          simp only [bad, Bool.or_eq_false_iff, decide_eq_false_iff_not]
          exact ⟨c1, by simpa using c2⟩
        · exact q3 i (by omega) h2
theorem cnd_n {T : Tx} : ∀ (m p : Nat), p + m = T.1 → cnd T m p = false → ∀ i, p ≤ i → (∀ j, p ≤ j → j < i → bad (chr T j) = false) → cndB (chr T i) = false
  | 0, p, hm, _, i, h1, _ => by rw [chr_hi (by omega)]; decide
  | m + 1, p, hm, h, i, h1, h2 => by
    unfold cnd at h
    by_cases c1 : chr T p = 59
    · by_cases e : i = p
      · rw [e, c1]; decide
      · have := h2 p (Nat.le_refl _) (by omega)
        rw [c1] at this
        exact absurd this (by decide)
    · rw [if_neg c1] at h
      by_cases c2 : cndB (chr T p) = true
      · rw [if_pos c2] at h; cases h
      · rw [if_neg c2] at h
        by_cases e : i = p
        · rw [e]; simpa using c2
        · exact cnd_n m (p + 1) (by omega) h i (by omega) (fun j h3 h4 => h2 j (by omega) h4)
/-! clauses -/
def clX : Nat → Nat → Bool := fun a j => a == 60 && (j == 10 || j == 11 || j == 12 || j == 14 || j == 17)
theorem clX_f : Sf clX := by
  have h : ∀ q ∈ rfL, clX q.1.1 q.1.2 = false := by decide +kernel
  exact h
theorem Fr.pc {σ σ' : Me} (h : Fr paX σ σ') : Fr clX σ σ' := h.mono (fun a j e => by
  simp only [paX, clX, Bool.and_eq_false_iff, Bool.or_eq_false_iff, beq_eq_false_iff_ne] at e ⊢
  omega)
theorem Cx.cl {B : Prop} {L : Nat → Int32} {a b : Nat} {T : Tx} {σ σ' : Me} (h : Cx B L a b T σ) (f : Fr clX σ σ') : Cx B L a b T σ' := by
  obtain ⟨h1, ⟨h2, h3, h4, h5, h6⟩, h7⟩ := h
  refine ⟨f.sh clX_f h1, ⟨by rw [f.r rfl]; exact h2, by rw [f.i rfl]; exact h3, by rw [f.i rfl]; exact h4, fun i hi => ?_, h6⟩, fun hB c hc => by rw [f.i rfl]; exact h7 hB c hc⟩
  rw [f.i]
  · exact h5 i hi
  · rcases h6 with ⟨rfl, -⟩ | ⟨rfl, -⟩ <;> rfl
/-- what was found in the signs so far -/
def FnS (B : Prop) (L : Nat → Int32) (A : List Ci) (σ : Me) : Prop := mi σ 60 13 = nI 121 ∧ ∃ (h : Bool) (w : Int32), mi σ 60 17 = bI h ∧ mi σ 60 14 = w ∧ (h = false → w = 0) ∧ (B → ∀ rest, wrun L (A ++ rest) [] false = if h = true then w else wrun L rest [] false)
theorem FnS.pa {B : Prop} {L : Nat → Int32} {A : List Ci} {σ σ' : Me} (h : FnS B L A σ) (f : Fr paX σ σ') : FnS B L A σ' := by
  obtain ⟨h0, t, w, h1, h2, h3⟩ := h
  exact ⟨by rw [f.i rfl]; exact h0, t, w, by rw [f.i rfl]; exact h1, by rw [f.i rfl]; exact h2, h3⟩
def ParG (B : Prop) (L : Nat → Int32) (σ : Me) (x : Pr) (o : Option (Unit × Me)) : Prop := match x with
  | .inl f => ∃ σ' : Me, o = some ((), σ') ∧ Fr clX σ σ' ∧ mi σ' 60 11 = nI f
  | .inr z => ∃ σ' : Me, o = some ((), σ') ∧ Fr clX σ σ' ∧ mi σ' 60 11 = -1 ∧ FnS B L z.2 σ'
/-- a clause is read; or it is not, or what stands behind it is none -/
def ClsM (B : Prop) (L : Nat → Int32) (a b : Nat) (T : Tx) (σ : Me) (A : List Ci) (x : Pr) (o : Option (Unit × Me)) : Prop := match x with
  | .inl f => ∃ σ' : Me, o = some ((), σ') ∧ Fr clX σ σ' ∧ (mi σ' 60 11 = nI f ∨ (Ps B L a b T σ' f 0 ∧ nx T f = f ∧ chr T f ≠ 59 ∧ chr T f ≠ 0))
  | .inr z => ∃ σ' : Me, o = some ((), σ') ∧ Fr clX σ σ' ∧ Ps B L a b T σ' z.1 0 ∧ FnS B L (A ++ z.2) σ'
section MK2
variable {N : Nat} {B : Prop} {L : Nat → Int32} {a b : Nat} {T : Tx} {A : List Ci}
theorem c134_y {σ : Me} {r : Nat} {C : List Ci} {t : Bool} {v : Int32} (hP : Ps B L a b T σ r 0) (hF : FnS B L A σ) (hV : B → ∀ rest, wrun L (C ++ rest) [] false = if t = true then v else wrun L rest [] false) : ∃ σ' : Me, fc12_clause_134 N (some 60) (nI 121) (bI t) v σ = some ((), σ') ∧ Fr clX σ σ' ∧ Ps B L a b T σ' r 0 ∧ FnS B L (A ++ C) σ' := by
  obtain ⟨h0, h, w, h1, h2, h3, h4⟩ := hF
  rw [fc12_clause_134, mq hP.1.1 hP.2.2.1, bnd, if_pos rfl, mq hP.1.1 h1, bnd]
  cases h with
  | true =>
    rw [if_neg (show ¬ bI true = 0 by decide)]
    refine ⟨σ, rfl, Fr.rf _ _, hP, h0, true, w, h1, h2, (fun e => by cases e), fun hB rest => ?_⟩
    rw [List.append_assoc, h4 hB]; rfl
  | false =>
    rw [if_pos (show bI false = 0 from rfl), mq hP.1.1 h0, bnd, if_pos rfl]
    cases t with
    | false =>
      rw [if_pos (show bI false = 0 from rfl)]
      refine ⟨σ, rfl, Fr.rf _ _, hP, h0, false, w, h1, h2, h3, fun hB rest => ?_⟩
      rw [List.append_assoc, h4 hB, if_neg (by decide), hV hB, if_neg (by decide), if_neg (by decide)]
    | true =>
      have f : Fr clX σ (setI (setI σ 60 17 1) 60 14 v) := fr_I rfl (fr_I rfl (Fr.rf _ _))
      have hs : Sh (setI σ 60 17 1) := hP.1.1
      have p17 : pZ σ 12 17 (some 60) (1 : Int32) = some (setI σ 60 17 1) := by
        unfold pZ
        rw [if_pos (.inr rfl), d60 hP.1.1, bnd]
      rw [if_neg (show ¬ bI true = 0 by decide), p17, bnd, mp hs, bnd]
      refine ⟨_, rfl, f, ⟨hP.1.cl f, ?_, ?_, ?_, hP.2.2.2.2⟩, ?_, true, v, ?_, mi_eq _ _ _ _, (fun e => by cases e), fun hB rest => ?_⟩
      · rw [mi_ne _ _ (by omega), mi_ne _ _ (by omega)]; exact hP.2.1
      · rw [mi_ne _ _ (by omega), mi_ne _ _ (by omega)]; exact hP.2.2.1
      · rw [mi_ne _ _ (by omega), mi_ne _ _ (by omega)]; exact hP.2.2.2.1
      · rw [mi_ne _ _ (by omega), mi_ne _ _ (by omega)]; exact h0
      · rw [mi_ne _ _ (by omega), mi_eq]; rfl
      · rw [List.append_assoc, h4 hB, if_neg (by decide), hV hB]
theorem c134_n {σ : Me} {f : Nat} (h : Sh σ) (hf : f < 1000) (e : mi σ 60 11 = nI f) (x y v : Int32) : fc12_clause_134 N (some 60) x y v σ = some ((), σ) := by
  rw [fc12_clause_134, mq h e, bnd, if_neg (nI_m1 (by omega))]
/-- behind a condition -/
theorem askC_m (hT : txOK T) (hN : 300 ≤ N) {σ0 σ : Me} {p : Nat} (hP : Ps B L a b T σ0 p 0) (hF : FnS B L A σ0) {x : Pr} (hg : Gl T x) {o : Option (Int32 × Me)} (hx : ParM B L WB 19 σ0 x o) (f0 : Fr clX σ σ0) :
    ClsM B L a b T σ A (thn x (fun r C => if chr T (nx T r) = 63 then thn (pSum T 6 (nx T r + 1)) (fun r' D => pEnd r' (C ++ [.inr 63] ++ D)) else .inl (nx T r))) (o.bind fun p67 => (dr p67.2 (some 60) (.inl 12)).bind fun a => (fc12_takes N a (63 : Int32) p67.2).bind fun p74 => if p74.1 = 0 then some ((), p74.2) else (dr p74.2 (some 60) (.inl 12)).bind fun a => (fc12_sum N a p74.2).bind fun p82 => fc12_clause_134 N (some 60) (nI 121) p67.1 p82.1 p82.2) := by
  have h2 := hT.1
  rcases x with c | ⟨r, C⟩
  · obtain ⟨w, σ3, y1, y2, y3, y4⟩ := hx
    have hc : c ≤ T.1 := hg
    have hs3 := (hP.1.fr y2).1
    rw [y1, bnd, d60 hs3, bnd, takes_2 hs3 (by omega) y4, bnd, if_pos rfl]
    exact ⟨σ3, rfl, f0.tr y2.pc, .inl y4⟩
  · obtain ⟨w, σ3, y1, y2, y3, y4, y5, y6, y7⟩ := hx
    have g3 : r ≤ T.1 := hg
    have P3 : Ps B L a b T σ3 r 0 := hP.of y2 y4 y5 y6 g3
    obtain ⟨t1, t2⟩ := takes_m (N := N) (c := 63) P3 hT hN (by decide) (by decide)
    rw [y1, bnd, d60 P3.1.1, bnd, y63]
    show ClsM B L a b T σ A (if chr T (nx T r) = 63 then _ else _) _
    by_cases c3 : chr T (nx T r) = 63
    · obtain ⟨σ4, w1, w2, w3⟩ := t1 c3
      have hlt : nx T r < T.1 := chr_in (by omega)
      have hs := sumT_m (B := B) (L := L) (a := a) (b := b) hT hN (d := 6) (by decide) σ4 _ w3
      have hgs := pSum_gd T 6 (nx T r + 1) (by omega)
      simp only at hs
      rw [if_pos c3, w1, bnd, if_neg one_z, d60 w3.1.1, bnd]
      generalize pSum T 6 (nx T r + 1) = x at hs hgs ⊢
      rcases x with c | ⟨r', D⟩
      · obtain ⟨v, σ5, z1, z2, z3, z4⟩ := hs
        have hc : c ≤ T.1 := hgs
        rw [z1, bnd, c134_n (w3.1.fr z2).1 (by omega) z4]
        exact ⟨σ5, rfl, f0.tr (y2.tr (w2.tr z2)).pc, .inl z4⟩
      · obtain ⟨v, σ5, z1, z2, z3, z4, z5, z6, z7⟩ := hs
        obtain ⟨g5, g6, g7, g8⟩ := hgs
        have P5 : Ps B L a b T σ5 r' 0 := w3.of z2 z4 z5 z6 g7
        obtain ⟨t, rfl⟩ := WB_of y3
        have hF5 : FnS B L A σ5 := hF.pa (y2.tr (w2.tr z2))
        obtain ⟨σ6, e1, e2, e3, e4⟩ := c134_y (N := N) (C := C ++ [.inr 63] ++ D ++ [.inr 59]) (t := t) (v := v) P5 hF5 (fun hB rest => wr_if (y7 hB).1 (by omega) (z7 hB).1 (by omega) (fun c hc => (g8 c hc).ne) rest)
        rw [z1, bnd, e1]
        exact ⟨σ6, rfl, (f0.tr (y2.tr (w2.tr z2)).pc).tr e2, e3, e4⟩
    · obtain ⟨σ4, w1, w2, w3⟩ := t2 c3
      rw [if_neg c3, w1, bnd, if_pos rfl]
      exact ⟨σ4, rfl, f0.tr (y2.tr w2).pc, .inl w3⟩
theorem clause2_m (hT : txOK T) (hN : 300 ≤ N) {σ : Me} {p : Nat} (hP : Ps B L a b T σ p 0) (hF : FnS B L A σ) : ClsM B L a b T σ A (pCls2 T p) ((fc12_look N 60 σ).bind fun p45 =>
      if p45.1 = (33 : Int32) then
        fc12_clause_64 N (some 60) (nI 121) p45.2
      else
        if p45.1 = (40 : Int32) then
          fc12_clause_64 N (some 60) (nI 121) p45.2
        else
          (dr p45.2 (some 60) (.inl 12)).bind fun a =>
          (fc12_sum N a p45.2).bind fun p90 =>
          (qI p90.2 12 11 (some 60)).bind fun v95 =>
          if v95 = (-1 : Int32) then
            (dr p90.2 (some 60) (.inl 12)).bind fun a =>
            (fc12_look N a p90.2).bind fun p103 =>
            (fc12_isSign N p103.1 p103.2).bind fun p106 =>
            if p106.1 = 0 then
              fc12_clause_134 N (some 60) (nI 121) (1 : Int32) p90.1 p106.2
            else
              (dr p106.2 (some 60) (.inl 12)).bind fun a =>
              (fc12_condition N a (1 : Int32) p90.1 p106.2).bind fun p115 =>
              (dr p115.2 (some 60) (.inl 12)).bind fun a =>
              (fc12_takes N a (63 : Int32) p115.2).bind fun p122 =>
              if p122.1 = 0 then
                some ((), p122.2)
              else
                (dr p122.2 (some 60) (.inl 12)).bind fun a =>
                (fc12_sum N a p122.2).bind fun p130 =>
                fc12_clause_134 N (some 60) (nI 121) p115.1 p130.1 p130.2
          else
            fc12_clause_134 N (some 60) (nI 121) (1 : Int32) p90.1 p90.2) := by
  have h2 := hT.1
  obtain ⟨σ1, q1, q2, q3⟩ := look_m (N := N) hP hT hN
  have hb := chr_lt hT (nx T p)
  have hF1 := hF.pa q2
  have hpl := hP.2.2.2.2
  rw [q1, bnd]
  have hc0 := (condD_m (B := B) (L := L) (a := a) (b := b) (N := N) hT hN 6 64 (by decide) (by decide))
  have nxs : ∀ d, pSum T d p = pSum T d (nx T p) := fun d => by
    rw [pSum_eq]
    show thn (thn (pAtm T (sumR T d) (nx T p)) _) _ = thn (thn (pAtm T (sumR T d) (nx T (nx T p))) _) _
    rw [nx_nx]
  have nxc : (pUC T 6).2 p = (pUC T 6).2 (nx T p) := by
    rw [pUC_eq]
    show thn (thn (pUn T (pSum T 6) (ucR T 6) (nx T p)) _) _ = thn (thn (pUn T (pSum T 6) (ucR T 6) (nx T (nx T p))) _) _
    rw [nx_nx]
  by_cases cb : chr T (nx T p) = 33 ∨ chr T (nx T p) = 40
  · have hc : cnd T (T.1 - p) p = true := by
      cases w : cnd T (T.1 - p) p with
      | true => rfl
      | false =>
        have := cnd_n (T.1 - p) p (by omega) w (nx T p) (nx_ge T p) (fun j h1 h2 => nx_cl h1 h2)
        exfalso
        rcases cb with c | c
        · rw [c] at this; exact absurd this (by decide)
        · rw [c] at this; exact absurd this (by decide)
    have e64 : (if lk (chr T (nx T p)) = (33 : Int32) then fc12_clause_64 N (some 60) (nI 121) σ1 else if lk (chr T (nx T p)) = (40 : Int32) then fc12_clause_64 N (some 60) (nI 121) σ1 else none) = fc12_clause_64 N (some 60) (nI 121) σ1 := by
      rcases cb with c | c
      · rw [if_pos ((lkI y33 hb (by decide) (by decide)).mpr c)]
      · rw [if_neg (fun w => by have := (lkI y33 hb (by decide) (by decide)).mp w; omega), if_pos ((lkI y40 hb (by decide) (by decide)).mpr c)]
    have hx := hc0.2.2 σ1 _ q3
    have hg := (pUC_gd T 6).2 (nx T p) (nx_le hpl)
    have k := askC_m hT hN q3 hF1 hg.gl hx q2.pc
    unfold pCls2
    rw [if_pos hc, nxc]
    have e2 : fc12_clause_64 N (some 60) (nI 121) σ1 = ((GRc12_condition N 64).1 60 (0 : Int32) (0 : Int32) σ1).bind fun p67 => (dr p67.2 (some 60) (.inl 12)).bind fun a => (fc12_takes N a (63 : Int32) p67.2).bind fun p74 => if p74.1 = 0 then some ((), p74.2) else (dr p74.2 (some 60) (.inl 12)).bind fun a => (fc12_sum N a p74.2).bind fun p82 => fc12_clause_134 N (some 60) (nI 121) p67.1 p82.1 p82.2 := by
      rw [fc12_clause_64, d60 q3.1.1, bnd]; rfl
    rcases cb with c | c
    · rw [if_pos ((lkI y33 hb (by decide) (by decide)).mpr c), e2]
      exact k
    · rw [if_neg (fun w => by have := (lkI y33 hb (by decide) (by decide)).mp w; omega), if_pos ((lkI y40 hb (by decide) (by decide)).mpr c), e2]
      exact k
  · have n33 : ¬ chr T (nx T p) = 33 := fun e => cb (.inl e)
    have n40 : ¬ chr T (nx T p) = 40 := fun e => cb (.inr e)
    rw [if_neg (fun w => n33 ((lkI y33 hb (by decide) (by decide)).mp w)), if_neg (fun w => n40 ((lkI y40 hb (by decide) (by decide)).mp w)), d60 q3.1.1, bnd]
    have hs := sumT_m (B := B) (L := L) (a := a) (b := b) hT hN (d := 6) (by decide) σ1 _ q3
    have hgs := pSum_gd T 6 (nx T p) (nx_le hpl)
    have hcl := pSum_cl T 6 p
    have hnx := pSum_nx T 6 (nx T p)
    rw [nxs] at hcl
    have eu : (pUC T 6).2 p = thn (thn (thn (pSum T 6 (nx T p)) (pCmp T (pSum T 6))) (fun r C => pLoop T oN (pUnit T (pSum T 6) (ucR T 6)) 240 r C)) (fun r C => pLoop T oO (pTru T (pSum T 6) (ucR T 6)) 240 r C) := by
      rw [pUC_eq]
      show thn (thn (pUn T (pSum T 6) (ucR T 6) (nx T p)) _) _ = _
      unfold pUn
      rw [if_neg n33, if_neg n40]
    have hgt : Gd T p (thn (thn (pSum T 6 (nx T p)) (pCmp T (pSum T 6))) (fun r C => pLoop T oN (pUnit T (pSum T 6) (ucR T 6)) 240 r C)) := by
      have k := (pCndR_gd (pSum_gd T 6) (ucR_gd T 6)).1 p hpl
      have e : pTru T (pSum T 6) (ucR T 6) p = thn (thn (pSum T 6 (nx T p)) (pCmp T (pSum T 6))) (fun r C => pLoop T oN (pUnit T (pSum T 6) (ucR T 6)) 240 r C) := by
        show thn (pUn T (pSum T 6) (ucR T 6) (nx T p)) _ = _
        unfold pUn
        rw [if_neg n33, if_neg n40]
      rw [e] at k; exact k
    have hgu : Gd T p (thn (pSum T 6 (nx T p)) (pCmp T (pSum T 6))) := by
      have k := pUnit_gd (pSum_gd T 6) (ucR_gd T 6) p hpl
      have e : pUnit T (pSum T 6) (ucR T 6) p = thn (pSum T 6 (nx T p)) (pCmp T (pSum T 6)) := by
        show pUn T (pSum T 6) (ucR T 6) (nx T p) = _
        unfold pUn
        rw [if_neg n33, if_neg n40]
      rw [e] at k; exact k
    have hgc := (pUC_gd T 6).2 p hpl
    rw [eu] at hgc
    unfold pCls2
    rw [eu, nxs]
    simp only at hs
    generalize pSum T 6 (nx T p) = x at hs hgs hcl hnx hgt hgu hgc ⊢
    rcases x with c | ⟨r, C⟩
    · obtain ⟨v, σ3, y1, y2, y3, y4⟩ := hs
      have hc : c ≤ T.1 := hgs
      have hs3 := (q3.1.fr y2).1
      rw [y1, bnd, mq hs3 y4, bnd, if_neg (nI_m1 (by omega)), c134_n hs3 (by omega) y4]
      by_cases hc2 : cnd T (T.1 - p) p = true
      · rw [if_pos hc2]
        show ClsM B L a b T σ A (.inl c) _
        exact ⟨σ3, rfl, (q2.tr y2).pc, .inl y4⟩
      · rw [if_neg hc2]
        show ClsM B L a b T σ A (.inl c) _
        exact ⟨σ3, rfl, (q2.tr y2).pc, .inl y4⟩
    · obtain ⟨v, σ3, y1, y2, y3, y4, y5, y6, y7⟩ := hs
      obtain ⟨g1, g2, g3, g4⟩ := hgs
      simp only at g1 g2 g3
      have P3 : Ps B L a b T σ3 r 0 := q3.of y2 y4 y5 y6 g3
      obtain ⟨σ4, l1, l2, l3⟩ := look_m (N := N) P3 hT hN
      have hbr := chr_lt hT (nx T r)
      have hgr := nx_ge T r
      have hF4 : FnS B L A σ4 := hF1.pa (y2.tr l2)
      have hclr : ∀ i, p ≤ i → i < nx T r → bad (chr T i) = false := fun i h1 h2 => by
        rcases Nat.lt_or_ge i r with c | c
        · exact hcl _ rfl i h1 c
        · exact nx_cl c h2
      rw [y1, bnd, mq P3.1.1 P3.2.2.1, bnd, if_pos rfl, d60 P3.1.1, bnd, l1, bnd, isSign_m hbr, bnd]
      by_cases cs : oC_ (chr T (nx T r)) = true
      · have hc : cnd T (T.1 - p) p = true := by
          cases w : cnd T (T.1 - p) p with
          | true => rfl
          | false =>
            have hg0 := nx_ge T p
            have := cnd_n (T.1 - p) p (by omega) w (nx T r) (by omega) hclr
            simp only [cndB, Bool.or_eq_false_iff] at this
            rw [cs] at this
            cases this.2
        rw [if_pos hc, if_pos cs, if_neg one_z, d60 l3.1.1, bnd]
        have hcm := cmp_m hT hN (pSum_gd T 6) (by omega) (sumT_m (B := B) (L := L) (a := a) (b := b) hT hN (d := 6) (by decide)) l3 y7
        have ecm : pCmp T (pSum T 6) (nx T r) C = pCmp T (pSum T 6) r C := by unfold pCmp; rw [nx_nx]
        rw [ecm] at hcm
        have hu := (condD_m (B := B) (L := L) (a := a) (b := b) (N := N) hT hN 6 62 (by decide) (by decide)).1
        have ht := (condD_m (B := B) (L := L) (a := a) (b := b) (N := N) hT hN 6 63 (by decide) (by decide)).2.1
        have k1 := partL_m (o := fc12_compares_12 N (some 60) v σ4) hT hN (by omega) (pUnit_gd (pSum_gd T 6) (ucR_gd T 6)) (by rw [pUC_eq] at hu; exact hu) l3 hgu.gl hcm
        have k2 := condL_m hT hN (by omega) (pCndR_gd (pSum_gd T 6) (ucR_gd T 6)).1 ht l3 hgt.gl k1
        have ec : fc12_condition N 60 (1 : Int32) v σ4 = ((fc12_compares_12 N (some 60) v σ4).bind fun q => fc12_part_17 N (GRc12_condition N 62) (some 60) q.1 q.2).bind fun q => fc12_condition_7 N (GRc12_condition N 63) N (some 60) q.1 q.2 := by
          show bc12_condition N (GRc12_condition N 63) 60 (1 : Int32) v σ4 = _
          rw [bc12_condition, d60 l3.1.1, bnd]
          have ep : (GRc12_condition N 63).2.1 60 (1 : Int32) v σ4 = (fc12_compares_12 N (some 60) v σ4).bind fun q => fc12_part_17 N (GRc12_condition N 62) (some 60) q.1 q.2 := by
            show bc12_part N (GRc12_condition N 62) 60 (1 : Int32) v σ4 = _
            rw [bc12_part, if_neg one_z, d60 l3.1.1, bnd, fc12_compares, if_neg one_z]
          rw [ep]
        rw [ec]
        have hgc2 : Gd T p (thn (thn (pCmp T (pSum T 6) r C) (fun r C => pLoop T oN (pUnit T (pSum T 6) (ucR T 6)) 240 r C)) (fun r C => pLoop T oO (pTru T (pSum T 6) (ucR T 6)) 240 r C)) := hgc
        exact askC_m hT hN l3 hF4 hgc2.gl k2 ((q2.tr y2).tr l2).pc
      · have hv : ∀ rest, B → wrun L ((C ++ [.inr 59]) ++ rest) [] false = if true = true then v else wrun L rest [] false := fun rest hB => by
          rw [if_pos rfl]; exact wr_end (y7 hB).1 (by omega) rest
        rw [if_neg cs, if_pos rfl]
        obtain ⟨σ5, e1, e2, e3, e4⟩ := c134_y (N := N) (C := C ++ [.inr 59]) (t := true) (v := v) l3 hF4 (fun hB rest => hv rest hB)
        have e1 : fc12_clause_134 N (some 60) (nI 121) (1 : Int32) v σ4 = some ((), σ5) := e1
        rw [e1]
        by_cases hc : cnd T (T.1 - p) p = true
        · rw [if_pos hc]
          show ClsM B L a b T σ A (thn (thn (thn (pCmp T (pSum T 6) r C) _) _) _) _
          have ec : pCmp T (pSum T 6) r C = .inl (nx T r) := by unfold pCmp; rw [if_neg cs]
          rw [ec]
          obtain ⟨q, c1, c2, c3⟩ := cnd_y _ _ hc
          have hle : nx T r ≤ q := by
            rcases Nat.lt_or_ge q (nx T r) with w | w
            · have := hclr q c1 w
              simp only [bad, Bool.or_eq_false_iff] at this
              rw [c2] at this
              cases this.2
            · exact w
          have hq0 : q < T.1 := chr_in (fun w => by rw [w] at c2; exact absurd c2 (by decide))
          refine ⟨σ5, rfl, ((q2.tr y2).tr l2).pc.tr e2, .inr ⟨e3, nx_nx T r, ?_, ?_⟩⟩
          · by_cases e : nx T r = q
            · intro w
              rw [← e, w] at c2
              exact absurd c2 (by decide)
            · have hg0 := nx_ge T p
              have := c3 (nx T r) (by omega) (by omega)
              intro w
              rw [w] at this
              exact absurd this (by decide)
          · intro w
            have := chr_0 hT w
            omega
        · rw [if_neg hc]
          have e3' : Ps B L a b T σ5 r 0 := by rw [hnx _ rfl] at e3; exact e3
          exact ⟨σ5, rfl, ((q2.tr y2).tr l2).pc.tr e2, e3', e4⟩
theorem clause_m (hT : txOK T) (hN : 300 ≤ N) {σ : Me} {p : Nat} (hP : Ps B L a b T σ p 0) (hF : FnS B L A σ) : ClsM B L a b T σ A (pCls T p) (fc12_clause N 60 σ) := by
  obtain ⟨σ1, q1, q2, q3⟩ := look_m (N := N) hP hT hN
  have hb := chr_lt hT (nx T p)
  unfold pCls
  rw [fc12_clause, d60 hP.1.1, bnd, q1, bnd, among_m w_y rfl (by decide) hN, bnd, am_y _ hb]
  by_cases c1 : chr T (nx T p) = 121
  · obtain ⟨s1, s2, s3, s4⟩ := q3.step (chr_in (by omega))
    have el : lk (chr T (nx T p)) = nI 121 := by rw [c1]; rfl
    obtain ⟨t1, t2⟩ := takes_m (N := N) (c := 58) s4 hT hN (by decide) (by decide)
    rw [if_pos c1, if_pos c1, if_neg one_z, s1, bnd, s2, bnd, d60 s4.1.1, bnd, y58, el]
    by_cases c2 : chr T (nx T (nx T p + 1)) = 58
    · obtain ⟨σ2, w1, w2, w3⟩ := t1 c2
      have f2 : Fr paX σ σ2 := (q2.tr s3).tr w2
      rw [if_pos c2, w1, bnd, if_neg one_z, d60 w3.1.1, bnd]
      have k := clause2_m hT hN w3 (hF.pa f2)
      generalize pCls2 T (nx T (nx T p + 1) + 1) = x at k ⊢
      rcases x with c | z
      · obtain ⟨σ3, k1, k2, k3⟩ := k
        exact ⟨σ3, k1, f2.pc.tr k2, k3⟩
      · obtain ⟨σ3, k1, k2, k3⟩ := k
        exact ⟨σ3, k1, f2.pc.tr k2, k3⟩
    · obtain ⟨σ2, w1, w2, w3⟩ := t2 c2
      rw [if_neg c2, w1, bnd, if_pos rfl]
      exact ⟨σ2, rfl, ((q2.tr s3).tr w2).pc, .inl w3⟩
  · rw [if_neg c1, if_neg c1, if_pos rfl, d60 q3.1.1, bnd, (fails_m (N := N) q3).1, bnd]
    exact ⟨_, rfl, (q2.tr (fails_m (N := N) q3).2.1).pc, .inl (fails_m (N := N) q3).2.2⟩
/-- what stands behind a clause -/
def pRest (T : Tx) (m r : Nat) (A : List Ci) : Pr := if chr T (nx T r) = 0 then .inr (nx T r, A) else if chr T (nx T r) = 59 then pLawL T m (nx T r + 1) A else .inl (nx T r)
theorem pLawL_s (T : Tx) (m p : Nat) (A : List Ci) : pLawL T (m + 1) p A = thn (pCls T p) (fun r C => pRest T m r (A ++ C)) := rfl
theorem goFail_m (hT : txOK T) (hN : 300 ≤ N) {σ : Me} {f fu : Nat} (hP : Ps B L a b T σ f 0) (hn : nx T f = f) (h59 : chr T f ≠ 59) (h0 : chr T f ≠ 0) : ∃ σ' : Me, fc12_goThrough_32 N (fu + 1) (some 60) σ = some ((), σ') ∧ Fr clX σ σ' ∧ mi σ' 60 11 = nI f := by
  obtain ⟨σ1, q1, q2, q3⟩ := look_m (N := N) hP hT hN
  obtain ⟨σ2, r1, r2, r3⟩ := look_m (N := N) q3 hT hN
  rw [hn] at q1 q3 r1 r3
  rw [hn] at r1 r3
  have hb := chr_lt hT f
  rw [fc12_goThrough_32, mq hP.1.1 hP.2.2.1, bnd, if_pos rfl, d60 hP.1.1, bnd, q1, bnd, if_neg (fun w => h59 ((lkI y59 hb (by decide) (by decide)).mp w)), fc12_goThrough_66, mq q3.1.1 q3.2.2.1, bnd, if_pos rfl, d60 q3.1.1, bnd, r1, bnd, if_neg (fun w => h0 ((lk_m1 hb).mp w)), d60 r3.1.1, bnd, (fails_m (N := N) r3).1, bnd]
  exact ⟨_, rfl, ((q2.tr r2).tr (fails_m (N := N) r3).2.1).pc, (fails_m (N := N) r3).2.2⟩
theorem goFault_m {σ : Me} {f fu : Nat} (h : Sh σ) (hf : f < 1000) (e : mi σ 60 11 = nI f) : fc12_goThrough_32 N (fu + 1) (some 60) σ = some ((), σ) := by
  rw [fc12_goThrough_32, mq h e, bnd, if_neg (nI_m1 (by omega)), fc12_goThrough_66, mq h e, bnd, if_neg (nI_m1 (by omega))]
theorem go32_m (hT : txOK T) (hN : 300 ≤ N) {σ0 : Me} : ∀ (m i r fu : Nat) (A : List Ci) (σ : Me), i + m = 240 → m + 1 < fu → i ≤ r → Ps B L a b T σ r 0 → FnS B L A σ → Fr clX σ0 σ → ParG B L σ0 (pRest T m r A) (fc12_goThrough_32 N fu (some 60) σ)
  | _, _, _, 0, _, _, _, h0, _, _, _, _ => absurd h0 (Nat.not_lt_zero _)
  | m, i, r, fu + 1, A, σ, hi, h0, hir, hP, hF, f => by
    have h2 := hT.1
    have hpl := hP.2.2.2.2
    obtain ⟨σ1, q1, q2, q3⟩ := look_m (N := N) hP hT hN
    have hb := chr_lt hT (nx T r)
    have hg := nx_ge T r
    unfold pRest
    by_cases c0 : chr T (nx T r) = 0
    · obtain ⟨σ2, r1, r2, r3⟩ := look_m (N := N) q3 hT hN
      rw [nx_nx] at r1 r3
      rw [if_pos c0, fc12_goThrough_32, mq hP.1.1 hP.2.2.1, bnd, if_pos rfl, d60 hP.1.1, bnd, q1, bnd, if_neg (fun w => by have := (lkI y59 hb (by decide) (by decide)).mp w; omega), fc12_goThrough_66, mq q3.1.1 q3.2.2.1, bnd, if_pos rfl, d60 q3.1.1, bnd, r1, bnd, if_pos ((lk_m1 hb).mpr c0)]
      exact ⟨σ2, rfl, f.tr (q2.tr r2).pc, r3.2.2.1, hF.pa (q2.tr r2)⟩
    · rw [if_neg c0]
      by_cases c1 : chr T (nx T r) = 59
      · have hlt : nx T r < T.1 := chr_in c0
        obtain ⟨s1, s2, s3, s4⟩ := q3.step hlt
        have e0 : fc12_goThrough_32 N (fu + 1) (some 60) σ = (fc12_clause N 60 (setI σ1 60 10 (nI (nx T r + 1)))).bind fun p60 => fc12_goThrough_32 N fu (some 60) p60.2 := by
          rw [fc12_goThrough_32, mq hP.1.1 hP.2.2.1, bnd, if_pos rfl, d60 hP.1.1, bnd, q1, bnd, if_pos ((lkI y59 hb (by decide) (by decide)).mpr c1), s1, bnd, s2, bnd, d60 s4.1.1, bnd]
        rw [if_pos c1, e0]
        obtain ⟨m', rfl⟩ : ∃ m', m = m' + 1 := ⟨m - 1, by omega⟩
        rw [pLawL_s]
        have k := clause_m hT hN s4 (hF.pa (q2.tr s3))
        have hgd := pCls_gd (T := T) (p := nx T r + 1) (by omega)
        have f3 : Fr clX σ0 (setI σ1 60 10 (nI (nx T r + 1))) := f.tr (q2.tr s3).pc
        obtain ⟨fu', rfl⟩ : ∃ fu', fu = fu' + 1 := ⟨fu - 1, by omega⟩
        generalize pCls T (nx T r + 1) = x at k hgd ⊢
        rcases x with c | ⟨r', C⟩
        · obtain ⟨σ4, k1, k2, k3⟩ := k
          have hc : c ≤ T.1 := hgd
          rw [k1, bnd]
          rcases k3 with k3 | ⟨k3, k4, k5, k6⟩
          · rw [goFault_m (s4.1.cl k2).1 (show c < 1000 by omega) k3]
            exact ⟨σ4, rfl, f3.tr k2, k3⟩
          · obtain ⟨σ5, j1, j2, j3⟩ := goFail_m (N := N) (fu := fu') hT hN k3 k4 k5 k6
            exact ⟨σ5, j1, (f3.tr k2).tr j2, j3⟩
        · obtain ⟨σ4, k1, k2, k3, k4⟩ := k
          obtain ⟨g1, g2, g3, g4⟩ := hgd
          simp only at g1 g2 g3
          rw [k1, bnd]
          exact go32_m hT hN m' (i + 1) r' (fu' + 1) (A ++ C) σ4 (by omega) (by omega) (by omega) k3 k4 (f3.tr k2)
      · rw [if_neg c1]
        obtain ⟨σ2, r1, r2, r3⟩ := look_m (N := N) q3 hT hN
        rw [nx_nx] at r1 r3
        rw [fc12_goThrough_32, mq hP.1.1 hP.2.2.1, bnd, if_pos rfl, d60 hP.1.1, bnd, q1, bnd, if_neg (fun w => c1 ((lkI y59 hb (by decide) (by decide)).mp w)), fc12_goThrough_66, mq q3.1.1 q3.2.2.1, bnd, if_pos rfl, d60 q3.1.1, bnd, r1, bnd, if_neg (fun w => c0 ((lk_m1 hb).mp w)), d60 r3.1.1, bnd, (fails_m (N := N) r3).1, bnd]
        exact ⟨_, rfl, f.tr ((q2.tr r2).tr (fails_m (N := N) r3).2.1).pc, (fails_m (N := N) r3).2.2⟩
/-- what a going through writes -/
def goX : Nat → Nat → Bool := fun a j => a == 60 && (j == 5 || (decide (8 ≤ j) && decide (j ≤ 14)) || j == 17)
theorem goX_f : Sf goX := by
  have h : ∀ q ∈ rfL, goX q.1.1 q.1.2 = false := by decide +kernel
  exact h
theorem Fr.cg {σ σ' : Me} (h : Fr clX σ σ') : Fr goX σ σ' := h.mono (fun a j e => by
  simp only [goX, clX, Bool.and_eq_false_iff, Bool.or_eq_false_iff, beq_eq_false_iff_ne, decide_eq_false_iff_not] at e ⊢
  omega)
def ParT (B : Prop) (L : Nat → Int32) (σ : Me) (x : Pr) (o : Option (Unit × Me)) : Prop := match x with
  | .inl f => ∃ σ' : Me, o = some ((), σ') ∧ Fr goX σ σ' ∧ mi σ' 60 11 = nI f
  | .inr z => ∃ σ' : Me, o = some ((), σ') ∧ Fr goX σ σ' ∧ mi σ' 60 11 = -1 ∧ (B → mi σ' 60 14 = wrun L z.2 [] false)
theorem go_m (hT : txOK T) (hN : 300 ≤ N) {σ : Me} (h : Sh σ) (hL : LtS B L σ) (hx : ∀ i, i < T.1 → mi σ a (b + i) = sb (T.2 i)) (hab : (a = 61 ∧ b = 0) ∨ (a = 62 ∧ b ≤ 720)) : ParT B L σ (pLaw T) (fc12_goThrough N 60 (some a) (nI b) (nI T.1) σ) := by
  have h2 := hT.1
  have q5 : ∀ τ : Me, Sh τ → pR τ 12 5 (some 60) (some a) = some (setR τ 60 5 (some a)) := fun τ hτ => by simp only [pR, PN hτ, bnd]
  have pz : ∀ τ : Me, Sh τ → pZ τ 12 17 (some 60) (0 : Int32) = some (setI τ 60 17 0) := fun τ hτ => by
    unfold pZ
    rw [if_pos (.inl rfl), d60 hτ, bnd]
  have f5 : Fr goX σ (setR σ 60 5 (some a)) := (Fr.rf _ _).setR _ rfl
  have hs5 := f5.sh goX_f h
  have e0 : fc12_goThrough N 60 (some a) (nI b) (nI T.1) σ = (fc12_clause N 60 (setI (setI (setI (setI (setI (setI (setI (setI (setR σ 60 5 (some a)) 60 8 (nI b)) 60 9 (nI T.1)) 60 10 (nI 0)) 60 11 (-1)) 60 13 (nI 121)) 60 12 (nI 0)) 60 17 0) 60 14 (nI 0))).bind fun p29 => fc12_goThrough_32 N N (some 60) p29.2 := by
    rw [fc12_goThrough, d60 h, bnd, fc12_starts, q5 σ h, bnd, mp hs5, bnd, mp (show Sh (setI (setR σ 60 5 (some a)) 60 8 (nI b)) from hs5), bnd, y0, mp (show Sh (setI (setI (setR σ 60 5 (some a)) 60 8 (nI b)) 60 9 (nI T.1)) from hs5), bnd, mp (show Sh (setI (setI (setI (setR σ 60 5 (some a)) 60 8 (nI b)) 60 9 (nI T.1)) 60 10 (nI 0)) from hs5), bnd, bnd, y121, mp (show Sh (setI (setI (setI (setI (setR σ 60 5 (some a)) 60 8 (nI b)) 60 9 (nI T.1)) 60 10 (nI 0)) 60 11 (-1)) from hs5), bnd, mp (show Sh (setI (setI (setI (setI (setI (setR σ 60 5 (some a)) 60 8 (nI b)) 60 9 (nI T.1)) 60 10 (nI 0)) 60 11 (-1)) 60 13 (nI 121)) from hs5), bnd, ← y0, pz (setI (setI (setI (setI (setI (setI (setR σ 60 5 (some a)) 60 8 (nI b)) 60 9 (nI T.1)) 60 10 0) 60 11 (-1)) 60 13 (nI 121)) 60 12 0) hs5, bnd, mp (show Sh (setI (setI (setI (setI (setI (setI (setI (setR σ 60 5 (some a)) 60 8 (nI b)) 60 9 (nI T.1)) 60 10 0) 60 11 (-1)) 60 13 (nI 121)) 60 12 0) 60 17 0) from hs5), bnd, d60 (show Sh (setI (setI (setI (setI (setI (setI (setI (setI (setR σ 60 5 (some a)) 60 8 (nI b)) 60 9 (nI T.1)) 60 10 0) 60 11 (-1)) 60 13 (nI 121)) 60 12 0) 60 17 0) 60 14 0) from hs5), bnd]
  rw [e0]
  have f : Fr goX σ (setI (setI (setI (setI (setI (setI (setI (setI (setR σ 60 5 (some a)) 60 8 (nI b)) 60 9 (nI T.1)) 60 10 (nI 0)) 60 11 (-1)) 60 13 (nI 121)) 60 12 (nI 0)) 60 17 0) 60 14 (nI 0)) := fr_I rfl (fr_I rfl (fr_I rfl (fr_I rfl (fr_I rfl (fr_I rfl (fr_I rfl (fr_I rfl f5)))))))
  have hP : Ps B L a b T (setI (setI (setI (setI (setI (setI (setI (setI (setR σ 60 5 (some a)) 60 8 (nI b)) 60 9 (nI T.1)) 60 10 (nI 0)) 60 11 (-1)) 60 13 (nI 121)) 60 12 (nI 0)) 60 17 0) 60 14 (nI 0)) 0 0 := by
    refine ⟨⟨f.sh goX_f h, ⟨?_, ?_, ?_, fun i hi => ?_, hab⟩, fun hB c hc => by rw [f.i rfl]; exact hL hB c hc⟩, ?_, ?_, ?_, Nat.zero_le _⟩
    · simp only [mr_setI, mr_eq]
    · simp (disch := omega) only [mi_ne, mi_eq]
    · simp (disch := omega) only [mi_ne, mi_eq]
    · rw [f.i]
      · exact hx i hi
      · rcases hab with ⟨rfl, -⟩ | ⟨rfl, -⟩ <;> rfl
    · simp (disch := omega) only [mi_ne, mi_eq]
    · simp (disch := omega) only [mi_ne, mi_eq]
    · simp (disch := omega) only [mi_ne, mi_eq]
  have hF : FnS B L [] (setI (setI (setI (setI (setI (setI (setI (setI (setR σ 60 5 (some a)) 60 8 (nI b)) 60 9 (nI T.1)) 60 10 (nI 0)) 60 11 (-1)) 60 13 (nI 121)) 60 12 (nI 0)) 60 17 0) 60 14 (nI 0)) := by
    refine ⟨?_, false, 0, ?_, mi_eq _ _ _ _, fun _ => rfl, fun _ rest => rfl⟩
    · simp (disch := omega) only [mi_ne, mi_eq]
    · simp (disch := omega) only [mi_ne, mi_eq]; rfl
  generalize setI (setI (setI (setI (setI (setI (setI (setI (setR σ 60 5 (some a)) 60 8 (nI b)) 60 9 (nI T.1)) 60 10 (nI 0)) 60 11 (-1)) 60 13 (nI 121)) 60 12 (nI 0)) 60 17 0) 60 14 (nI 0) = τ at f hP hF ⊢
  have k := clause_m hT hN hP hF
  have hgd := pCls_gd (T := T) (p := 0) (Nat.zero_le _)
  unfold pLaw
  rw [pLawL_s]
  obtain ⟨N', rfl⟩ : ∃ N', N = N' + 1 := ⟨N - 1, by omega⟩
  generalize pCls T 0 = x at k hgd ⊢
  rcases x with c | ⟨r', C⟩
  · obtain ⟨σ4, k1, k2, k3⟩ := k
    have hc : c ≤ T.1 := hgd
    rw [k1, bnd]
    rcases k3 with k3 | ⟨k3, k4, k5, k6⟩
    · rw [goFault_m (hP.1.cl k2).1 (show c < 1000 by omega) k3]
      exact ⟨σ4, rfl, f.tr k2.cg, k3⟩
    · obtain ⟨σ5, j1, j2, j3⟩ := goFail_m (N := N' + 1) (fu := N') hT hN k3 k4 k5 k6
      exact ⟨σ5, j1, (f.tr k2.cg).tr j2.cg, j3⟩
  · obtain ⟨σ4, k1, k2, k3, k4⟩ := k
    rw [k1, bnd]
    have g := go32_m (σ0 := τ) hT hN 240 0 r' (N' + 1) C σ4 (by omega) (by omega) (by omega) k3 k4 k2
    show ParT B L σ (pRest T 240 r' C) _
    generalize pRest T 240 r' C = y at g ⊢
    rcases y with d | z
    · obtain ⟨σ5, j1, j2, j3⟩ := g
      exact ⟨σ5, j1, f.tr j2.cg, j3⟩
    · obtain ⟨σ5, j1, j2, j3, j4⟩ := g
      refine ⟨σ5, j1, f.tr j2.cg, j3, fun hB => ?_⟩
      obtain ⟨-, h', w, -, m1, m2, m3⟩ := j4
      have := m3 hB []
      rw [List.append_nil] at this
      rw [this, m1]
      cases h' with
      | true => rfl
      | false => rw [m2 rfl]; rfl
end MK2
