/-! the reference reads atoms, units, conditions -/
section MI
variable {N : Nat} {B : Prop} {L : Nat → Int32} {a b : Nat} {T : Tx}
theorem goesIn_y {σ : Me} {p g : Nat} (h : Ps B L a b T σ p g) (hg : g < 6) (hp : p < T.1) : ∃ σ' : Me, fc12_goesIn N 60 σ = some (1, σ') ∧ Fr paX σ σ' ∧ Ps B L a b T σ' (p + 1) (g + 1) := by
  have f : Fr paX σ (setI (setI σ 60 12 (nI (g + 1))) 60 10 (nI (p + 1))) := fr_I rfl (fr_I rfl (Fr.rf _ _))
  have h1 : Sh (setI σ 60 12 (nI (g + 1))) := h.1.1
  have n6 : ¬ nI g = (6 : Int32) := fun e => by have := (nI_eq (b := 6) (by omega) (by decide)).mp e; omega
  refine ⟨_, ?_, f, h.1.fr f, mi_eq _ _ _ _, ?_, ?_, hp⟩
  · have e10 : mi (setI σ 60 12 (nI (g + 1))) 60 10 = nI p := by rw [mi_ne _ _ (by omega)]; exact h.2.1
    rw [fc12_goesIn, mq h.1.1 h.2.2.2.1, bnd, if_neg n6, bnd, nI_1, mp h.1.1, bnd, mq h1 e10, bnd, nI_1, mp h1, bnd, retZ1]
  · rw [mi_ne _ _ (by omega), mi_ne _ _ (by omega)]; exact h.2.2.1
  · rw [mi_ne _ _ (by omega), mi_eq]
theorem goesIn_n {σ : Me} {p : Nat} (h : Ps B L a b T σ p 6) : fc12_goesIn N 60 σ = some (0, setI σ 60 11 (nI p)) := by
  rw [fc12_goesIn, mq h.1.1 h.2.2.2.1, bnd, if_pos (show nI 6 = (6 : Int32) from rfl), d60 h.1.1, bnd, (fails_m (N := N) h).1, bnd, retZ0]
/-- out again -/
theorem Ps.out {σ : Me} {p g : Nat} (h : Ps B L a b T σ p (g + 1)) : qI σ 12 12 (some 60) = some (nI (g + 1)) ∧ pI σ 12 12 (some 60) (nI (g + 1) - (1 : Int32)) = some (setI σ 60 12 (nI g)) ∧ Fr paX σ (setI σ 60 12 (nI g)) ∧ Ps B L a b T (setI σ 60 12 (nI g)) p g := by
  have f : Fr paX σ (setI σ 60 12 (nI g)) := fr_I rfl (Fr.rf _ _)
  have e : nI (g + 1) - (1 : Int32) = nI g := by rw [y1, pk_sub (by omega)]; rfl
  refine ⟨mq h.1.1 h.2.2.2.1, by rw [e]; exact mp h.1.1 _ _, f, h.1.fr f, ?_, ?_, mi_eq _ _ _ _, h.2.2.2.2⟩
  · rw [mi_ne _ _ (by omega)]; exact h.2.1
  · rw [mi_ne _ _ (by omega)]; exact h.2.2.1
theorem dig90_m {G : Rc12_atom} (hT : txOK T) {g : Nat} : ∀ (m k p v fu : Nat) (σ : Me), k + m = 4 → m + 1 < fu → v < 10 ^ k → Ps B L a b T σ p g →
    (isD (chr T (dgN T m p v).1) = true → ∃ σ' : Me, fc12_atom_90 N G fu (some 60) (nI v) (nI k) σ = some (0, σ') ∧ Fr paX σ σ' ∧ mi σ' 60 11 = nI (dgN T m p v).1) ∧
    (isD (chr T (dgN T m p v).1) ≠ true → ∃ σ' : Me, fc12_atom_90 N G fu (some 60) (nI v) (nI k) σ = some (nI (dgN T m p v).2, σ') ∧ Fr paX σ σ' ∧ Ps B L a b T σ' (dgN T m p v).1 g)
  | _, _, _, _, 0, _, _, h0, _, _ => absurd h0 (Nat.not_lt_zero _)
  | 0, k, p, v, fu + 1, σ, hk, _, hv, hP => by
    have ek : k = 4 := by omega
    subst ek
    rw [fc12_atom_90, d60 hP.1.1, bnd, isDigit_m hP.1 hT hP.2.1 hP.2.2.2.2, bnd]
    unfold dgN
    refine ⟨fun e => ?_, fun e => ?_⟩
    · rw [if_pos e, if_neg one_z, mq hP.1.1 hP.2.2.1, bnd, if_pos rfl, if_pos (show nI 4 = (4 : Int32) from rfl), d60 hP.1.1, bnd, (fails_m (N := N) hP).1, bnd]
      exact ⟨_, rfl, (fails_m (N := N) hP).2⟩
    · rw [if_neg e, if_pos rfl]
      exact ⟨σ, rfl, Fr.rf _ _, hP⟩
  | m + 1, k, p, v, fu + 1, σ, hk, h0, hv, hP => by
    have hcl := chr_lt hT p
    have hv4 : v < 10000 := Nat.lt_of_lt_of_le hv (Nat.le_trans (Nat.pow_le_pow_right (by decide) (show k ≤ 4 by omega)) (by decide))
    rw [fc12_atom_90, d60 hP.1.1, bnd, isDigit_m hP.1 hT hP.2.1 hP.2.2.2.2, bnd]
    unfold dgN
    by_cases e : isD (chr T p) = true
    · have hd := isD_le e
      have hpp : p < T.1 := chr_in (by omega)
      obtain ⟨s1, s2, s3, s4⟩ := hP.step hpp
      have n4 : ¬ nI k = (4 : Int32) := fun w => by have := (nI_eq (b := 4) (by omega) (by decide)).mp w; omega
      have hs : sb (T.2 p) = nI (chr T p) := by rw [chr_lo hpp] at e ⊢; exact sb_num _ (hT.2 p hpp).2 e
      simp only [e, if_true]
      rw [if_neg one_z, mq hP.1.1 hP.2.2.1, bnd, if_pos rfl, if_neg n4, mq5 hP.1, bnd, mq hP.1.1 hP.1.2.1.2.1, bnd, s1, bnd, mld hP.1 hT hpp, bnd, bnd, s2, bnd, hs, nI_dig (by omega) hd.1 hcl, nI_1]
      obtain ⟨i1, i2⟩ := dig90_m (G := G) hT m (k + 1) (p + 1) (10 * v + (chr T p - 48)) fu (setI σ 60 10 (nI (p + 1))) (by omega) (by omega) (by rw [Nat.pow_succ]; omega) s4
      refine ⟨fun w => ?_, fun w => ?_⟩
      · obtain ⟨σ', j1, j2, j3⟩ := i1 w
        exact ⟨σ', j1, s3.tr j2, j3⟩
      · obtain ⟨σ', j1, j2, j3⟩ := i2 w
        exact ⟨σ', j1, s3.tr j2, j3⟩
    · have e' : isD (chr T p) = false := by simpa using e
      simp only [e', Bool.false_eq_true, if_false]
      rw [if_pos trivial]
      exact ⟨fun w => w.elim, fun _ => ⟨σ, rfl, Fr.rf _ _, hP⟩⟩
theorem Bd_num {n : Nat} (h : n < 10000) : Bd (nI n) := by
  unfold Bd
  rw [nI_toInt (by omega)]
  omega
def InM (B : Prop) (L : Nat → Int32) (a b : Nat) (T : Tx) (R : Option (Nat → Pr)) (g k : Nat) (F : Me → Option (Int32 × Me)) : Prop := (R = none → g = 6) ∧ ∀ X, R = some X → g < 6 ∧ RdM B L a b T WA (g + 1) k X F
theorem atom_m (hT : txOK T) (hN : 300 ≤ N) {R : Option (Nat → Pr)} (hG : GdR T R) {G : Rc12_atom} {g k : Nat} (hk : 2 ≤ k) (hI : InM B L a b T R g k (fun σ => G.2.1 60 σ)) : RdM B L a b T WA g k (pAtom T R) (fun σ => bc12_atom N G 60 σ) := by
  intro σ p hP
  obtain ⟨σ1, q1, q2, q3⟩ := look_m (N := N) hP hT hN
  have hb := chr_lt hT (nx T p)
  have h2 := hT.1
  have e12 : mi σ1 60 12 = mi σ 60 12 := q3.2.2.2.1.trans hP.2.2.2.1.symm
  show ParM B L WA k σ (pAtm T R (nx T p)) (bc12_atom N G 60 σ)
  refine ParM.fr (σ := σ1) ?_ q2 e12
  rw [bc12_atom, d60 hP.1.1, bnd, q1, bnd, among_m w_l rfl (by decide) hN, bnd, am_l _ hb]
  unfold pAtm
  by_cases c2 : ltrI (chr T (nx T p)) = 0
  · rw [if_pos c2, if_pos rfl]
    by_cases c1 : chr T (nx T p) = 91
    · rw [if_pos c1, if_pos ((lkI y91 hb (by decide) (by decide)).mpr c1), d60 q3.1.1, bnd]
      have hlt : nx T p < T.1 := chr_in (by omega)
      cases hRe : R with
      | none =>
        have hg6 := hI.1 hRe
        subst hg6
        rw [goesIn_n q3, bnd, if_pos rfl]
        exact ⟨_, _, rfl, (fails_m (N := N) q3).2.1, trivial, (fails_m (N := N) q3).2.2⟩
      | some X =>
        obtain ⟨hg, hX⟩ := hI.2 X hRe
        obtain ⟨σ2, i1, i2, i3⟩ := goesIn_y (N := N) q3 hg hlt
        rw [i1, bnd, if_neg one_z, d60 i3.1.1, bnd]
        have hx := hX σ2 _ i3
        have hg2 := hG X hRe (nx T p + 1) (by omega)
        simp only at hx
        show ParM B L WA k σ1 (thn (X (nx T p + 1)) (pCl T 93)) _
        generalize X (nx T p + 1) = x at hx hg2 ⊢
        rcases x with c | ⟨r, D⟩
        · obtain ⟨w, σ3, y1, y2, y3, y4⟩ := hx
          have hc : c ≤ T.1 := hg2
          have hs3 := (i3.1.fr y2).1
          rw [y1, bnd, d60 hs3, bnd, takes_2 hs3 (by omega) y4, bnd, if_pos rfl]
          exact ⟨_, _, rfl, i2.tr y2, trivial, y4⟩
        · obtain ⟨w, σ3, y1, y2, y3, y4, y5, y6, y7⟩ := hx
          obtain ⟨g1, g2, g3, g4⟩ := hg2
          have P3 : Ps B L a b T σ3 r (g + 1) := i3.of y2 y4 y5 y6 g3
          obtain ⟨t1, t2⟩ := takes_m (N := N) (c := 93) P3 hT hN (by decide) (by decide)
          rw [y1, bnd, d60 P3.1.1, bnd, y93]
          show ParM B L WA k σ1 (pCl T 93 r D) _
          unfold pCl
          by_cases c3 : chr T (nx T r) = 93
          · obtain ⟨σ4, w1, w2, w3⟩ := t1 c3
            obtain ⟨o1, o2, o3, o4⟩ := w3.out
            rw [if_pos c3, w1, bnd, if_neg one_z, o1, bnd, o2, bnd]
            exact ⟨_, _, rfl, ((i2.tr y2).tr w2).tr o3, trivial, o4.2.1, o4.2.2.1, o4.2.2.2.1.trans q3.2.2.2.1.symm, y7⟩
          · obtain ⟨σ4, w1, w2, w3⟩ := t2 c3
            rw [if_neg c3, w1, bnd, if_pos rfl]
            exact ⟨_, _, rfl, (i2.tr y2).tr w2, trivial, w3⟩
    · rw [if_neg c1, if_neg (fun w => c1 ((lkI y91 hb (by decide) (by decide)).mp w)), if_neg (fun w => w c2), d60 q3.1.1, bnd, isDigit_m q3.1 hT q3.2.1 q3.2.2.2.2, bnd]
      by_cases c3 : isD (chr T (nx T p)) = true
      · rw [if_pos c3, if_pos c3, if_neg one_z, fc12_atom_86]
        obtain ⟨d1, d2⟩ := dig90_m (N := N) (G := G) hT 4 0 (nx T p) 0 N σ1 (by omega) (by omega) (by decide) q3
        unfold pNum
        by_cases c4 : isD (chr T (dgN T 4 (nx T p) 0).1) = true
        · obtain ⟨σ2, j1, j2, j3⟩ := d1 c4
          rw [if_pos c4]
          exact ⟨_, σ2, j1, j2, trivial, j3⟩
        · obtain ⟨σ2, j1, j2, j3⟩ := d2 c4
          have hv := dgN_v T 4 (nx T p) 0 1 (by omega)
          rw [if_neg c4]
          exact ⟨_, σ2, j1, j2, trivial, j3.2.1, j3.2.2.1, j3.2.2.2.1.trans q3.2.2.2.1.symm, fun _ => ⟨(Vl.num L _).up hk, Bd_num (by omega)⟩⟩
      · rw [if_neg c3, if_neg c3, if_pos rfl, d60 q3.1.1, bnd, (fails_m (N := N) q3).1, bnd, fc12_atom_86]
        have hC2 := q3.1.fr (fails_m (N := N) q3).2.1
        have hp2 : mi (setI σ1 60 11 (nI (nx T p))) 60 10 = nI (nx T p) := by rw [mi_ne _ _ (by omega)]; exact q3.2.1
        obtain ⟨N', rfl⟩ : ∃ N', N = N' + 1 := ⟨N - 1, by omega⟩
        have e90 : fc12_atom_90 (N' + 1) G (N' + 1) (some 60) (0 : Int32) (0 : Int32) (setI σ1 60 11 (nI (nx T p))) = some (0, setI σ1 60 11 (nI (nx T p))) := by
          rw [fc12_atom_90, d60 hC2.1, bnd, isDigit_m hC2 hT hp2 q3.2.2.2.2, bnd, if_neg c3, if_pos rfl]
        rw [e90]
        exact ⟨_, _, rfl, (fails_m (N := N' + 1) q3).2.1, trivial, (fails_m (N := N' + 1) q3).2.2⟩
  · have h6 := ltrI_le (chr T (nx T p))
    have hlt : nx T p < T.1 := chr_in (fun w => c2 (by rw [w]; rfl))
    have n91 : ¬ chr T (nx T p) = 91 := fun w => c2 (by rw [w]; rfl)
    have h0 : chr T (nx T p) ≠ 0 := fun w => c2 (by rw [w]; rfl)
    have h128 : chr T (nx T p) < 128 := by
      have : ∀ c, c < 256 → ltrI c ≠ 0 → c < 128 := by decide +kernel
      exact this _ hb c2
    obtain ⟨s1, s2, s3, s4⟩ := q3.step hlt
    have e4 : qR (setI σ1 60 10 (nI (nx T p + 1))) 12 4 (some 60) = some (some 64) := by simp only [qR, PN s4.1.1, bnd]
    have el : lk (chr T (nx T p)) = nI (chr T (nx T p)) := if_neg h0
    rw [if_neg c2, if_neg one_z, s1, bnd, s2, bnd, e4, bnd, el, ldI_lo _ _ _ (by decide), A64 s4.1.1 _ h128, bnd, nI_clamp (by omega), bnd, if_neg n91, if_pos c2]
    refine ⟨_, _, rfl, s3, trivial, s4.2.1, s4.2.2.1, s4.2.2.2.1.trans q3.2.2.2.1.symm, fun hB => ?_⟩
    obtain ⟨l1, l2⟩ := s4.1.2.2 hB _ c2
    rw [l1]
    exact ⟨(Vl.ltr L h6).up hk, l2⟩
theorem sumD_m (hT : txOK T) (hN : 300 ≤ N) : ∀ (d D : Nat), d ≤ 6 → 3 * d + 3 ≤ D → RdM B L a b T WA (6 - d) (2 * d + 4) (pSum T d) (fun σ => (GRc12_atom N D).2.1 60 σ)
  | d, D, hd, hD => by
    obtain ⟨D', rfl⟩ : ∃ D', D = D' + 3 := ⟨D - 3, by omega⟩
    rw [pSum_eq]
    have hi : InM B L a b T (sumR T d) (6 - d) (2 * d + 2) (fun σ => (GRc12_atom N D').2.1 60 σ) := by
      cases d with
      | zero => exact ⟨fun _ => rfl, fun X e => by cases e⟩
      | succ d =>
        refine ⟨fun e => (by cases e), fun X e => ?_⟩
        cases e
        refine ⟨by omega, ?_⟩
        have ih := sumD_m hT hN d D' (by omega) (by omega)
        rw [show 6 - (d + 1) + 1 = 6 - d by omega]
        exact ih
    exact sumr_m hT hN (by omega) (sumR_gd T d) (term_m hT hN (by omega) (sumR_gd T d) (atom_m hT hN (sumR_gd T d) (by omega) hi))
termination_by d => d
theorem sumT_m (hT : txOK T) (hN : 300 ≤ N) {d : Nat} (hd : d ≤ 6) : RdM B L a b T WA (6 - d) (2 * d + 4) (pSum T d) (fun σ => fc12_sum N 60 σ) := sumD_m hT hN d 64 hd (by omega)
/-! conditions -/
theorem isSign_m {σ : Me} {c : Nat} (hc : c < 256) : fc12_isSign N (lk c) σ = some (if oC_ c = true then 1 else 0, σ) := by
  unfold fc12_isSign fc12_isSign_18
  by_cases c1 : c = 61
  · rw [if_pos ((lkI y61 hc (by decide) (by decide)).mpr c1), retZ1, c1]; rfl
  · rw [if_neg (fun w => c1 ((lkI y61 hc (by decide) (by decide)).mp w))]
    by_cases c2 : c = 60
    · rw [if_pos ((lkI y60 hc (by decide) (by decide)).mpr c2), retZ1, c2]; rfl
    · rw [if_neg (fun w => c2 ((lkI y60 hc (by decide) (by decide)).mp w))]
      by_cases c3 : c = 62
      · rw [if_pos ((lkI y62 hc (by decide) (by decide)).mpr c3), retZ1, c3]; rfl
      · have e : oC_ c = false := by simp [oC_, c1, c2, c3]
        rw [if_neg (fun w => c3 ((lkI y62 hc (by decide) (by decide)).mp w)), retZ0, e]; rfl
theorem WB_b (t : Bool) : WB (bI t) := by cases t; exact .inl rfl; exact .inr rfl
theorem WB_of {v : Int32} (h : WB v) : ∃ t : Bool, v = bI t := by
  rcases h with rfl | rfl
  · exact ⟨false, rfl⟩
  · exact ⟨true, rfl⟩
theorem retW {v : Int32} {σ : Me} (h : WB v) : retZ v σ = some (v, σ) := if_pos h
theorem Bd_b (t : Bool) : Bd (bI t) := by cases t <;> exact ⟨by decide, by decide⟩
theorem cmp_m (hT : txOK T) (hN : 300 ≤ N) {Z : Nat → Pr} (hZ : GdX T Z) {g k : Nat} (hk : 2 ≤ k) (hS : RdM B L a b T WA g k Z (fun σ => fc12_sum N 60 σ)) {σ : Me} {r : Nat} {C : List Ci} {v : Int32} (hP : Ps B L a b T σ r g) (hV : B → Vl L k C v ∧ Bd v) : ParM B L WB (k + 1) σ (pCmp T Z r C) (fc12_compares_12 N (some 60) v σ) := by
  obtain ⟨σ1, q1, q2, q3⟩ := look_m (N := N) hP hT hN
  have hb := chr_lt hT (nx T r)
  have h2 := hT.1
  have e12 : mi σ1 60 12 = mi σ 60 12 := q3.2.2.2.1.trans hP.2.2.2.1.symm
  refine ParM.fr (σ := σ1) ?_ q2 e12
  rw [fc12_compares_12, mq hP.1.1 hP.2.2.1, bnd, if_pos rfl, d60 hP.1.1, bnd, q1, bnd, isSign_m hb, bnd]
  unfold pCmp
  by_cases c : oC_ (chr T (nx T r)) = true
  · have hlt : nx T r < T.1 := chr_in (oC_x.n0 c)
    obtain ⟨s1, s2, s3, s4⟩ := q3.step hlt
    have hx := hS _ _ s4
    have hg2 := hZ (nx T r + 1) (by omega)
    rw [if_pos c, if_pos c, if_neg one_z, s1, bnd, s2, bnd, d60 s4.1.1, bnd]
    simp only at hx
    have fin : ∀ (w : Int32) (σ3 : Me), (if lk (chr T (nx T r)) = (61 : Int32) then (if v = w then retZ (1 : Int32) σ3 else retZ (0 : Int32) σ3) else if lk (chr T (nx T r)) = (60 : Int32) then (if w ≤ v then retZ (0 : Int32) σ3 else retZ (1 : Int32) σ3) else (if v ≤ w then retZ (0 : Int32) σ3 else retZ (1 : Int32) σ3)) = some (jn v (chr T (nx T r)) w, σ3) ∧ WB (jn v (chr T (nx T r)) w) := by
      intro w σ3
      simp only [oC_, Bool.or_eq_true, decide_eq_true_eq] at c
      rcases c with (c | c) | c
      · rw [if_pos ((lkI y61 hb (by decide) (by decide)).mpr c), c, jn_61]
        refine ⟨?_, WB_b _⟩
        by_cases z : v = w
        · rw [if_pos z, retZ1, decide_eq_true z]; rfl
        · rw [if_neg z, retZ0, decide_eq_false z]; rfl
      · rw [if_neg (fun w => by have := (lkI y61 hb (by decide) (by decide)).mp w; omega), if_pos ((lkI y60 hb (by decide) (by decide)).mpr c), c, jn_60]
        refine ⟨?_, WB_b _⟩
        by_cases z : w ≤ v
        · rw [if_pos z, retZ0, decide_eq_false (fun q => q z)]; rfl
        · rw [if_neg z, retZ1, decide_eq_true z]; rfl
      · rw [if_neg (fun w => by have := (lkI y61 hb (by decide) (by decide)).mp w; omega), if_neg (fun w => by have := (lkI y60 hb (by decide) (by decide)).mp w; omega), c, jn_62]
        refine ⟨?_, WB_b _⟩
        by_cases z : v ≤ w
        · rw [if_pos z, retZ0, decide_eq_false (fun q => q z)]; rfl
        · rw [if_neg z, retZ1, decide_eq_true z]; rfl
    generalize Z (nx T r + 1) = x at hx hg2 ⊢
    rcases x with d | ⟨r', D⟩
    · obtain ⟨w, σ3, y1, y2, y3, y4⟩ := hx
      obtain ⟨f1, f2⟩ := fin w σ3
      rw [y1, bnd]
      exact ⟨_, σ3, f1, s3.tr y2, f2, y4⟩
    · obtain ⟨w, σ3, y1, y2, y3, y4, y5, y6, y7⟩ := hx
      obtain ⟨f1, f2⟩ := fin w σ3
      rw [y1, bnd]
      refine ⟨_, σ3, f1, s3.tr y2, f2, y4, y5, y6.trans (s4.2.2.2.1.trans q3.2.2.2.1.symm), fun hB => ⟨?_, Bd_jn _ _ _⟩⟩
      exact (hV hB).1.join (y7 hB).1 (by omega) (Nat.le_refl _) (by omega) (oC_x _ c)
  · rw [if_neg c, if_neg c, if_pos rfl, d60 q3.1.1, bnd, (fails_m (N := N) q3).1, bnd, retZ0]
    exact ⟨_, _, rfl, (fails_m (N := N) q3).2.1, .inl rfl, (fails_m (N := N) q3).2.2⟩
end MI
