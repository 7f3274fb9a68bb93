/-! the reference reads a plain: clauses, all of it -/
def mlX : Nat → Nat → Bool := fun a j => (a == 60 && (j == 10 || j == 11 || j == 12 || j == 25 || j == 27)) || a == 66 || a == 68
theorem mlX_f : Sf mlX := by
  have h : ∀ q ∈ rfL, mlX q.1.1 q.1.2 = false := by decide +kernel
  exact h
theorem Fr.im {c : Bool} {R : Nat} {σ σ' : Me} (h : Fr (miX c R) σ σ') : Fr mlX σ σ' := h.mono (fun a j e => by
  simp only [mlX, miX, Bool.or_eq_false_iff, Bool.and_eq_false_iff, decide_eq_false_iff_not, beq_eq_false_iff_ne] at e ⊢
  refine ⟨by omega, .inl ?_⟩
  cases c
  · exact e.2
  · exact e.1.2)
theorem Fr.pl {σ σ' : Me} (h : Fr paX σ σ') : Fr mlX σ σ' := h.mono (fun a j e => by
  simp only [mlX, paX, Bool.or_eq_false_iff, Bool.and_eq_false_iff, decide_eq_false_iff_not, beq_eq_false_iff_ne] at e ⊢
  omega)
theorem Cx.ml {B : Prop} {L : Nat → Int32} {a b : Nat} {T : Tx} {σ σ' : Me} (h : Cx B L a b T σ) (f : Fr mlX σ σ') : Cx B L a b T σ' := h.gen f mlX_f ⟨rfl, rfl, rfl⟩ (fun _ => ⟨rfl, rfl, rfl⟩)
def DrM (σ : Me) (D : PD) : Prop := mi σ 60 27 = bI D.1 ∧ (∀ k, k < 3 → mi σ 66 k = nI (D.2.1 k)) ∧ mi σ 60 25 = nI D.2.2.1 ∧ ∀ f, f < D.2.2.1 → ∀ k, k < 5 → mi σ 68 (5 * f + k) = nI (D.2.2.2 f k)
theorem DrM.pa {σ σ' : Me} {D : PD} (h : DrM σ D) (f : Fr paX σ σ') : DrM σ' D :=
  ⟨by rw [f.i rfl]; exact h.1, fun k hk => by rw [f.i rfl]; exact h.2.1 k hk, by rw [f.i rfl]; exact h.2.2.1, fun i hi k hk => by rw [f.i rfl]; exact h.2.2.2 i hi k hk⟩
section MR
variable {N : Nat} {B : Prop} {L : Nat → Int32} {a b : Nat} {T : Tx} {σ : Me} {p g : Nat}
def ParKM (B : Prop) (L : Nat → Int32) (a b : Nat) (T : Tx) (σ : Me) (g : Nat) (x : PC3) (o : Option (Unit × Me)) : Prop := match x with
  | .inl f => ∃ σ' : Me, o = some ((), σ') ∧ Fr mlX σ σ' ∧ mi σ' 60 11 = nI f
  | .inr z => ∃ σ' : Me, o = some ((), σ') ∧ Fr mlX σ σ' ∧ Ps B L a b T σ' z.1 g ∧ DrM σ' z.2
theorem Ps.s60 (h : Ps B L a b T σ p g) {j : Nat} (hj : j = 25 ∨ j = 27) (x : Int32) : Fr mlX σ (setI σ 60 j x) ∧ Ps B L a b T (setI σ 60 j x) p g := by
  have f : Fr mlX σ (setI σ 60 j x) := fr_I (by rcases hj with rfl | rfl <;> rfl) (Fr.rf _ _)
  exact ⟨f, h.1.ml f, by rw [mi_ne _ _ (by omega)]; exact h.2.1, by rw [mi_ne _ _ (by omega)]; exact h.2.2.1, by rw [mi_ne _ _ (by omega)]; exact h.2.2.2.1, h.2.2.2.2⟩
theorem clsFail_m (h : Ps B L a b T σ p g) (x : Int32) : ∃ σ' : Me, fc12_readClause_37 N (some 60) x σ = some ((), σ') ∧ Fr mlX σ σ' ∧ mi σ' 60 11 = nI p := by
  rw [fc12_readClause_37, fc12_readClause_38, if_pos rfl, d60 h.1.1, bnd, (fails_m (N := N) h).1, bnd]
  exact ⟨_, rfl, (fails_m (N := N) h).2.1.pl, (fails_m (N := N) h).2.2⟩
theorem clsF_m (h : Ps B L a b T σ p g) (hT : txOK T) (hN : 300 ≤ N) {D : PD} (hD : DrM σ D) (hB : PDB D) : ParKM B L a b T σ g (if chr T p = 102 ∧ D.2.2.1 < 6 then (match pIt T false (p + 1) with
    | .inl f => .inl f
    | .inr z => .inr (z.1, (D.1, D.2.1, D.2.2.1 + 1, upR D.2.2.2 D.2.2.1 z.2)))
  else .inl p) (fc12_readClause_18 N (some 60) (lk (chr T p)) σ) := by
  have hb := chr_lt hT p
  have h6 := hB.2.1
  obtain ⟨σf, z1, z2, z3⟩ := clsFail_m (N := N) h (lk (chr T p))
  rw [fc12_readClause_18]
  by_cases c1 : chr T p = 102
  · rw [if_pos ((lkI y102 hb (by decide) (by decide)).mpr c1), mq h.1.1 hD.2.2.1, bnd, y6]
    by_cases c2 : D.2.2.1 < 6
    · obtain ⟨s1, s2, s3, s4⟩ := h.step (chr_in (by omega))
      have e25 : mi (setI σ 60 10 (nI (p + 1))) 60 25 = nI D.2.2.1 := by rw [mi_ne _ _ (by omega)]; exact hD.2.2.1
      obtain ⟨f5, P5⟩ := s4.s60 (.inl rfl) (nI (D.2.2.1 + 1))
      have q21 : qR (setI (setI σ 60 10 (nI (p + 1))) 60 25 (nI (D.2.2.1 + 1))) 12 21 (some 60) = some (some 68) := by simp only [qR, PN P5.1.1, bnd]
      have n115 : ¬ lk (chr T p) = (115 : Int32) := fun w => by have := (lkI y115 hb (by decide) (by decide)).mp w; omega
      have ek : lk (chr T p) = nI (kcI false) := by rw [c1]; rfl
      have er : (5 : Int32) * (nI (D.2.2.1 + 1) - (1 : Int32)) = nI (5 * D.2.2.1) := by
        rw [y1, pk_sub (by omega), Nat.add_sub_cancel, y5, pk_mul]
      have k := items_m (N := N) (c := false) hT hN P5 (R := 5 * D.2.2.1) (by show 5 * D.2.2.1 + 5 ≤ 30; omega)
      rw [if_neg (nI_ge c2 (by decide)), fc12_readClause_33, fc12_readClause_38, if_neg one_z, s1, bnd, s2, bnd, if_neg n115, mq s4.1.1 e25, bnd, nI_1, mp s4.1.1, bnd, q21, bnd, mq P5.1.1 (mi_eq _ _ _ _), bnd, d60 P5.1.1, bnd, er, ek, if_pos ⟨c1, c2⟩]
      have k : ParJ B L a b T _ g false (5 * D.2.2.1) (pIt T false (p + 1)) (fc12_readItems N 60 (nI (kcI false)) (some 68) (nI (5 * D.2.2.1)) (some 1000027) (setI (setI σ 60 10 (nI (p + 1))) 60 25 (nI (D.2.2.1 + 1)))) := k
      generalize pIt T false (p + 1) = x at k ⊢
      have f6 : Fr mlX σ (setI (setI σ 60 10 (nI (p + 1))) 60 25 (nI (D.2.2.1 + 1))) := s3.pl.tr f5
      rcases x with c | z
      · obtain ⟨σ1, y1', y2', y3'⟩ := k
        rw [y1', bnd]
        exact ⟨σ1, rfl, f6.tr y2'.im, y3'⟩
      · obtain ⟨σ1, y1', y2', y3', y4'⟩ := k
        rw [y1', bnd]
        refine ⟨σ1, rfl, f6.tr y2'.im, y3', ?_, fun k hk => ?_, ?_, fun f hf k hk => ?_⟩
        · rw [y2'.i rfl, mi_ne _ _ (by omega), mi_ne _ _ (by omega)]; exact hD.1
        · rw [y2'.i rfl, mi_ne _ _ (by omega), mi_ne _ _ (by omega)]; exact hD.2.1 k hk
        · rw [y2'.i rfl, mi_eq]
        · have hf : f < D.2.2.1 + 1 := hf
          show mi σ1 68 (5 * f + k) = nI (upR D.2.2.2 D.2.2.1 z.2 f k)
          unfold upR
          by_cases w : f = D.2.2.1
          · rw [if_pos w, w]; exact y4' k hk
          · rw [if_neg w, y2'.i (by simp [miX, itC]; omega), mi_ne _ _ (by omega), mi_ne _ _ (by omega)]
            exact hD.2.2.2 f (by omega) k hk
    · rw [if_pos (nI_le (by omega) (by omega)), if_neg (fun w => c2 w.2), z1]
      exact ⟨σf, rfl, z2, z3⟩
  · rw [if_neg (fun w => c1 ((lkI y102 hb (by decide) (by decide)).mp w)), if_neg (fun w => c1 w.1), z1]
    exact ⟨σf, rfl, z2, z3⟩
theorem ParKM.fr {σ0 : Me} {x : PC3} {o : Option (Unit × Me)} (f : Fr mlX σ0 σ) (h : ParKM B L a b T σ g x o) : ParKM B L a b T σ0 g x o := by
  rcases x with a | z
  · obtain ⟨σ', h1, h2, h3⟩ := h
    exact ⟨σ', h1, f.tr h2, h3⟩
  · obtain ⟨σ', h1, h2, h3⟩ := h
    exact ⟨σ', h1, f.tr h2, h3⟩
theorem clsP_m (h : Ps B L a b T σ p g) (hT : txOK T) (hN : 300 ≤ N) {D : PD} (hD : DrM σ D) (hB : PDB D) : ParKM B L a b T σ g (pPC T D (nx T p)) (fc12_readClause N 60 σ) := by
  obtain ⟨σ1, q1, q2, q3⟩ := look_m (N := N) h hT hN
  have hb := chr_lt hT (nx T p)
  have hD1 := hD.pa q2
  have k18 := (clsF_m (N := N) q3 hT hN hD1 hB).fr q2.pl
  rw [fc12_readClause, d60 h.1.1, bnd, q1, bnd]
  unfold pPC
  by_cases c1 : chr T (nx T p) = 115
  · rw [if_pos ((lkI y115 hb (by decide) (by decide)).mpr c1), mq q3.1.1 hD1.1, bnd]
    cases hr : D.1 with
    | true =>
      rw [if_neg (show ¬ bI true = 0 by decide), if_neg (fun w => by cases w.2)]
      rw [hr] at k18
      exact k18
    | false =>
      rw [if_pos (show bI false = 0 from rfl), if_pos ⟨c1, rfl⟩]
      obtain ⟨s1, s2, s3, s4⟩ := q3.step (chr_in (by omega))
      obtain ⟨f5, P5⟩ := s4.s60 (.inr rfl) 1
      have pz : pZ (setI σ1 60 10 (nI (nx T p + 1))) 12 27 (some 60) (1 : Int32) = some (setI (setI σ1 60 10 (nI (nx T p + 1))) 60 27 1) := by
        unfold pZ
        rw [if_pos (.inr rfl), d60 s4.1.1, bnd]
      have q19 : qR (setI (setI σ1 60 10 (nI (nx T p + 1))) 60 27 1) 12 19 (some 60) = some (some 66) := by simp only [qR, PN P5.1.1, bnd]
      have e115 : lk (chr T (nx T p)) = (115 : Int32) := (lkI y115 hb (by decide) (by decide)).mpr c1
      have k := items_m (N := N) (c := true) hT hN P5 (R := 0) (by decide)
      rw [fc12_readClause_33, fc12_readClause_38, if_neg one_z, s1, bnd, s2, bnd, if_pos e115, pz, bnd, q19, bnd, d60 P5.1.1, bnd, e115]
      have k : ParJ B L a b T _ g true 0 (pIt T true (nx T p + 1)) (fc12_readItems N 60 (115 : Int32) (some 66) (0 : Int32) (some 1000026) (setI (setI σ1 60 10 (nI (nx T p + 1))) 60 27 1)) := k
      generalize pIt T true (nx T p + 1) = x at k ⊢
      have f6 : Fr mlX σ (setI (setI σ1 60 10 (nI (nx T p + 1))) 60 27 1) := (q2.tr s3).pl.tr f5
      rcases x with c | z
      · obtain ⟨σ2, y1', y2', y3'⟩ := k
        rw [y1', bnd]
        exact ⟨σ2, rfl, f6.tr y2'.im, y3'⟩
      · obtain ⟨σ2, y1', y2', y3', y4'⟩ := k
        rw [y1', bnd]
        refine ⟨σ2, rfl, f6.tr y2'.im, y3', ?_, fun k hk => ?_, ?_, fun f hf k hk => ?_⟩
        · rw [y2'.i rfl, mi_eq]; rfl
        · have := y4' k hk
          rw [Nat.zero_add] at this
          exact this
        · rw [y2'.i rfl, mi_ne _ _ (by omega), mi_ne _ _ (by omega)]; exact hD1.2.2.1
        · rw [y2'.i rfl, mi_ne _ _ (by omega), mi_ne _ _ (by omega)]; exact hD1.2.2.2 f hf k hk
  · rw [if_neg (fun w => c1 ((lkI y115 hb (by decide) (by decide)).mp w)), if_neg (fun w => c1 w.1)]
    exact k18
def ParLM (σ : Me) (x : Nat ⊕ PD) (o : Option (Unit × Me)) : Prop := match x with
  | .inl f => ∃ σ' : Me, o = some ((), σ') ∧ Fr mlX σ σ' ∧ mi σ' 60 11 = nI f
  | .inr D => ∃ σ' : Me, o = some ((), σ') ∧ Fr mlX σ σ' ∧ mi σ' 60 11 = -1 ∧ DrM σ' D
theorem rp50_m (hT : txOK T) (hN : 300 ≤ N) {σ0 : Me} : ∀ (m k p fu : Nat) (D : PD) (σ : Me), k + m + 1 = 241 → m + 2 < fu → k ≤ p → Ps B L a b T σ p g → DrM σ D → PDB D → Fr mlX σ0 σ → ParLM σ0 (pPlL T (m + 1) p D) (fc12_readPlain_50 N fu (some 60) (1 : Int32) σ)
  | _, _, _, 0, _, _, _, h0, _, _, _, _, _ => absurd h0 (Nat.not_lt_zero _)
  | m, k, p, fu + 1, D, σ, hk, h0, hkp, h, hD, hB, f => by
    have h240 := hT.1
    have hx := clsP_m (N := N) h hT hN hD hB
    have hg := pPC_gd hB (nx_le h.2.2.2.2)
    obtain ⟨fu', rfl⟩ : ∃ fu', fu = fu' + 1 := ⟨fu - 1, by omega⟩
    have K0 : ∀ τ : Me, fc12_readPlain_50 N (fu' + 1) (some 60) (0 : Int32) τ = fc12_readPlain_106 N (some 60) τ := fun τ => by rw [fc12_readPlain_50, if_pos rfl]
    rw [fc12_readPlain_50, if_neg one_z, mq h.1.1 h.2.2.1, bnd, if_pos rfl, d60 h.1.1, bnd]
    have hgn := nx_ge T p
    unfold pPlL
    generalize pPC T D (nx T p) = x at hx hg ⊢
    rcases x with c | ⟨r, D'⟩
    · obtain ⟨σ1, y1', y2', y3'⟩ := hx
      have hc : c ≤ T.1 := hg
      have hs1 := (h.1.ml y2').1
      rw [y1', bnd, mq hs1 y3', bnd, if_neg (nI_m1 (by omega)), fc12_readPlain_87, fc12_readPlain_88, if_pos rfl, K0, fc12_readPlain_106, mq hs1 y3', bnd, if_neg (nI_m1 (by omega))]
      exact ⟨σ1, rfl, f.tr y2', y3'⟩
    · obtain ⟨σ1, y1', y2', y3', y4'⟩ := hx
      obtain ⟨g1, g2, g3, g4⟩ := hg
      simp only at g1 g2 g3 g4 y3' y4' ⊢
      have hb := chr_lt hT r
      obtain ⟨σ2, n1, n2, n3⟩ := look_m (N := N) y3' hT hN
      rw [g3] at n1 n3
      have hD2 := y4'.pa n2
      have f2 : Fr mlX σ0 σ2 := f.tr (y2'.tr n2.pl)
      obtain ⟨σ3, l1, l2, l3⟩ := look_m (N := N) n3 hT hN
      rw [g3] at l1 l3
      have hD3 := hD2.pa l2
      have h6 := g4.2.1
      rw [y1', bnd, mq y3'.1.1 y3'.2.2.1, bnd, if_pos rfl, d60 y3'.1.1, bnd, n1, bnd]
      by_cases c0 : chr T r = 0
      · rw [if_pos c0, if_neg (show ¬ lk (chr T r) = (59 : Int32) from fun w => by have := (lkI y59 hb (by decide) (by decide)).mp w; omega), fc12_readPlain_87, fc12_readPlain_88, if_pos rfl, K0, fc12_readPlain_106, mq n3.1.1 n3.2.2.1, bnd, if_pos rfl, d60 n3.1.1, bnd, l1, bnd, if_pos ((lk_m1 hb).mpr c0), mq l3.1.1 hD3.2.2.1, bnd]
        by_cases c2 : D'.2.2.1 < 2
        · rw [if_pos c2, if_neg (show ¬ (2 : Int32) ≤ nI D'.2.2.1 from nI_ge c2 (by decide)), fc12_readPlain_130, d60 l3.1.1, bnd, (fails_m (N := N) l3).1, bnd]
          exact ⟨_, rfl, f2.tr (l2.tr (fails_m (N := N) l3).2.1).pl, (fails_m (N := N) l3).2.2⟩
        · rw [if_neg c2, if_pos (show (2 : Int32) ≤ nI D'.2.2.1 from nI_le (show 2 ≤ D'.2.2.1 by omega) (by omega))]
          exact ⟨σ3, rfl, f2.tr l2.pl, l3.2.2.1, hD3⟩
      · rw [if_neg c0]
        by_cases c1 : chr T r = 59
        · have hlt : r < T.1 := chr_in (by omega)
          obtain ⟨s1, s2, s3, s4⟩ := n3.step hlt
          obtain ⟨m', rfl⟩ : ∃ m', m = m' + 1 := ⟨m - 1, by omega⟩
          rw [if_pos c1, if_pos ((lkI y59 hb (by decide) (by decide)).mpr c1), fc12_readPlain_88, if_neg one_z, s1, bnd, s2, bnd]
          exact rp50_m hT hN m' (k + 1) (r + 1) (fu' + 1) D' _ (by omega) (by omega) (by omega) s4 (hD2.pa s3) g4 (f2.tr s3.pl)
        · rw [if_neg c1, if_neg (fun w => c1 ((lkI y59 hb (by decide) (by decide)).mp w)), fc12_readPlain_87, fc12_readPlain_88, if_pos rfl, K0, fc12_readPlain_106, mq n3.1.1 n3.2.2.1, bnd, if_pos rfl, d60 n3.1.1, bnd, l1, bnd, if_neg (fun w => c0 ((lk_m1 hb).mp w)), fc12_readPlain_130, d60 l3.1.1, bnd, (fails_m (N := N) l3).1, bnd]
          exact ⟨_, rfl, f2.tr (l2.tr (fails_m (N := N) l3).2.1).pl, (fails_m (N := N) l3).2.2⟩
theorem rp25_m (hN : 300 ≤ N) {σ0 : Me} : ∀ (m k fu : Nat) (σ : Me), k + m = 3 → m < fu → Ps B L a b T σ p g → mi σ 60 27 = bI false → mi σ 60 25 = nI 0 → (∀ j, j < k → mi σ 66 j = nI (usI true j)) → Fr mlX σ0 σ → ∃ σ' : Me, fc12_readPlain_25 N fu (some 60) (nI k) σ = fc12_readPlain_50 N N (some 60) (1 : Int32) σ' ∧ Ps B L a b T σ' p g ∧ DrM σ' (false, usI true, 0, fun _ _ => 0) ∧ Fr mlX σ0 σ'
  | _, _, 0, _, _, h0, _, _, _, _, _ => absurd h0 (Nat.not_lt_zero _)
  | 0, k, fu + 1, σ, hk, _, h, e27, e25, hv, f => by
    refine ⟨σ, ?_, h, ⟨e27, fun j hj => hv j (by omega), e25, fun i hi => absurd hi (Nat.not_lt_zero _)⟩, f⟩
    rw [fc12_readPlain_25, y3, if_pos (nI_le (by omega) (by omega))]
  | m + 1, k, fu + 1, σ, hk, h0, h, e27, e25, hv, f => by
    have q19 : qR σ 12 19 (some 60) = some (some 66) := by simp only [qR, PN h.1.1, bnd]
    have us : fc12_usual N (115 : Int32) (nI k) σ = some (nI (usI true k), σ) := usual_m (c := true) (by show k < 3; omega)
    have st : stI σ (some 66) (nI k) (nI (usI true k)) = some (setI σ 66 k (nI (usI true k))) := by
      unfold stI
      rw [A66 h.1.1 k (by omega), bnd, nI_clamp (by omega)]
    have f1 : Fr mlX σ (setI σ 66 k (nI (usI true k))) := fr_I rfl (Fr.rf _ _)
    have P1 : Ps B L a b T (setI σ 66 k (nI (usI true k))) p g := ⟨h.1.ml f1, by rw [mi_ne _ _ (by omega)]; exact h.2.1, by rw [mi_ne _ _ (by omega)]; exact h.2.2.1, by rw [mi_ne _ _ (by omega)]; exact h.2.2.2.1, h.2.2.2.2⟩
    rw [fc12_readPlain_25, y3, if_neg (nI_ge (by omega) (by decide)), q19, bnd, us, bnd, st, bnd, nI_1]
    refine rp25_m hN m (k + 1) fu _ (by omega) (by omega) P1 (by rw [mi_ne _ _ (by omega)]; exact e27) (by rw [mi_ne _ _ (by omega)]; exact e25) (fun j hj => ?_) (f.tr f1)
    by_cases e : j = k
    · rw [e, mi_eq]
    · rw [mi_ne _ _ (by omega)]; exact hv j (by omega)
def mrX : Nat → Nat → Bool := fun a j => (a == 60 && (j == 5 || (decide (8 ≤ j) && decide (j ≤ 12)) || j == 25 || j == 27)) || a == 66 || a == 68
theorem mrX_f : Sf mrX := by
  have h : ∀ q ∈ rfL, mrX q.1.1 q.1.2 = false := by decide +kernel
  exact h
def ParLR (σ : Me) (x : Nat ⊕ PD) (o : Option (Unit × Me)) : Prop := match x with
  | .inl f => ∃ σ' : Me, o = some ((), σ') ∧ Fr mrX σ σ' ∧ mi σ' 60 11 = nI f
  | .inr D => ∃ σ' : Me, o = some ((), σ') ∧ Fr mrX σ σ' ∧ mi σ' 60 11 = -1 ∧ DrM σ' D
theorem readA_m (h : Sh σ) (hT : txOK T) (ht : TpM σ T) (hN : 300 ≤ N) : ParLR σ (pPlain T) (fc12_readPlain N 60 σ) := by
  obtain ⟨d, hd⟩ := nI_any (mi σ 60 12)
  obtain ⟨σ1, s1, s2, s3⟩ := starts_m (N := N) h ht hd
  have q1 : qR σ 12 1 (some 60) = some (some 61) := by simp only [qR, PN h, bnd]
  obtain ⟨f2, P2⟩ := s3.s60 (.inl rfl) (nI 0)
  obtain ⟨f3, P3⟩ := P2.s60 (.inr rfl) 0
  have pz : pZ (setI σ1 60 25 (nI 0)) 12 27 (some 60) (0 : Int32) = some (setI (setI σ1 60 25 (nI 0)) 60 27 0) := by
    unfold pZ
    rw [if_pos (.inl rfl), d60 P2.1.1, bnd]
  have e0 : fc12_readPlain N 60 σ = fc12_readPlain_25 N N (some 60) (nI 0) (setI (setI σ1 60 25 (nI 0)) 60 27 0) := by
    rw [fc12_readPlain, q1, bnd, mq h ht.1, bnd, d60 h, bnd, s1, bnd, mp s3.1.1, bnd]
    show (pZ (setI σ1 60 25 (nI 0)) 12 27 (some 60) (0 : Int32)).bind _ = _
    rw [pz, bnd]
    rfl
  have ft : Fr mrX σ σ1 := s2.mono (fun a j e => by
    simp only [mrX, tsX, Bool.or_eq_false_iff, Bool.and_eq_false_iff, decide_eq_false_iff_not, beq_eq_false_iff_ne] at e ⊢
    omega)
  have fm : ∀ {τ τ' : Me}, Fr mlX τ τ' → Fr mrX τ τ' := fun k => k.mono (fun a j e => by
    simp only [mrX, mlX, Bool.or_eq_false_iff, Bool.and_eq_false_iff, decide_eq_false_iff_not, beq_eq_false_iff_ne] at e ⊢
    omega)
  obtain ⟨σ4, r1, r2, r3, r4⟩ := rp25_m (N := N) hN 3 0 N _ rfl (by omega) P3 (mi_eq _ _ _ _) (by rw [mi_ne _ _ (by omega), mi_eq]) (fun j hj => absurd hj (Nat.not_lt_zero _)) (f2.tr f3)
  have k := rp50_m (σ0 := σ1) hT hN 240 0 0 N _ σ4 rfl (by omega) (Nat.zero_le _) r2 r3 ⟨us_B true, Nat.zero_le _, fun f hf => absurd hf (Nat.not_lt_zero _)⟩ r4
  rw [e0, r1]
  unfold pPlain
  generalize pPlL T 241 0 (false, usI true, 0, fun _ _ => 0) = x at k ⊢
  rcases x with c | D
  · obtain ⟨σ5, k1, k2, k3⟩ := k
    exact ⟨σ5, k1, ft.tr (fm k2), k3⟩
  · obtain ⟨σ5, k1, k2, k3⟩ := k
    exact ⟨σ5, k1, ft.tr (fm k2), k3⟩
end MR
