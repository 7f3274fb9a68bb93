/-! texts: laws and plans made; the tape fed; the class -/
section TY
variable {N : Nat} {σ : Me} {S : Sy}
theorem mr_kind {ls : List LwE} {hold : Option Nat} (h : LwC σ ls hold) {k : Nat} {q : LwE} (e : ls[k]? = some q) : q.1 < mz σ := (h.2.2.2 k q e).2.1.2.1
/-- a law is put behind the others -/
theorem enact_c (h : Sh σ) (hr : RC σ S) (hw : WS S) {C : List Ci} (hC : CdW σ C) (hl : C.length ≤ 240) (hz : mz σ + 4 < 1000000) (h4 : (sL S).length < 4) : ∃ σ' : Me, (fc11_enact N 0 σ).bind (fun p24 => fc11_text_46 N (some 0) p24.1 p24.2) = some (nI (sL S).length, σ') ∧ Sh σ' ∧ RC σ' (lwS S (mz σ) C) ∧ (∀ S0 : Sy, WS S0 → RM σ S0 → RM σ' S0) ∧ mz σ' ≤ mz σ + 4 := by
  obtain ⟨σ1, t1, t2, t3, t4⟩ := toLaw_c (N := N) h hC hl (by omega)
  have h1 := t2.sh h
  have hr1 := hr.gr t2 h
  have q6 : qI σ 11 6 (some 0) = some (nI (sL S).length) := by simp only [qI, PK h, bnd, hr.2.1.1]
  have q4 : qR σ 11 4 (some 0) = some (some 17) := by simp only [qR, PK h, bnd]
  have q2 : qR σ 11 2 (some 0) = some (some 11) := by simp only [qR, PK h, bnd]
  have st : stR σ1 "RainOwed$Law" 3 (some 17) (nI (sL S).length) (some (mz σ)) = some (setR σ1 17 (sL S).length (some (mz σ))) := by
    unfold stR
    rw [dr_ok t4.1, bnd, h1.ar 17 4 (by decide) rfl (by decide) _ h4, bnd, nI_clamp (by omega)]
  have fR : Fr (fun a _ => a == 17) σ1 (setR σ1 17 (sL S).length (some (mz σ))) := (Fr.rf _ _).setR _ rfl
  have h2 : Sh (setR σ1 17 (sL S).length (some (mz σ))) := fR.sh (by
    have h : ∀ q ∈ rfL, (fun a _ : Nat => a == 17) q.1.1 q.1.2 = false := by decide +kernel
    exact h) h1
  have q6' : qI (setR σ1 17 (sL S).length (some (mz σ))) 11 6 (some 0) = some (nI (sL S).length) := by
    have e : mi (setR σ1 17 (sL S).length (some (mz σ))) 0 6 = nI (sL S).length := hr1.2.1.1
    simp only [qI, PK h2, bnd, e]
  have p6 : pI (setR σ1 17 (sL S).length (some (mz σ))) 11 6 (some 0) (nI (sL S).length + (1 : Int32)) = some (setI (setR σ1 17 (sL S).length (some (mz σ))) 0 6 (nI ((sL S).length + 1))) := by simp only [pI, PK h2, bnd, nI_1]
  have h3 : Sh (setI (setR σ1 17 (sL S).length (some (mz σ))) 0 6 (nI ((sL S).length + 1))) := h2
  have fa : Fr (fun a j => a == 17 || (a == 0 && j == 6) || (a == 1 && j == 1)) σ1 (setI (setI (setR σ1 17 (sL S).length (some (mz σ))) 0 6 (nI ((sL S).length + 1))) 1 1 0) := fr_I rfl (fr_I rfl ((Fr.rf _ _).setR _ rfl))
  have hi : ∀ a j, 85 ≤ a → a ≠ 0 → (a == 17 || (a == 0 && j == 6) || (a == 1 && j == 1)) = false := fun a j h1 _ => by simp; omega
  obtain ⟨r1, ⟨l1, l2, l3, l4⟩, r3, r4, r5, r9⟩ := hr1
  have fcl : Fr clS σ1 (setI (setI (setR σ1 17 (sL S).length (some (mz σ))) 0 6 (nI ((sL S).length + 1))) 1 1 0) := fa.mono (fun a j e => by
    simp only [clS, Bool.or_eq_false_iff, Bool.and_eq_false_iff, decide_eq_false_iff_not, beq_eq_false_iff_ne] at e ⊢
    omega)
  refine ⟨setI (setI (setR σ1 17 (sL S).length (some (mz σ))) 0 6 (nI ((sL S).length + 1))) 1 1 0, ?_, h2, ⟨tp_mt, ⟨?_, ?_, ?_, fun k q e => ?_⟩, r3.fr ⟨l1, l2, l3, l4⟩ fa (b := 0) (.inl (by decide)) rfl (fun _ => rfl) hi, ?_, r5.fr fa hw.n6 (fun a j h1 h2 => by simp; omega) (fun a j h1 h2 => by simp; omega), r9.fr fa rfl (fun _ => ⟨rfl, rfl, rfl, rfl⟩)⟩, fun S0 hw0 hm => (hm.gr t2 h).cl fcl hw0, ?_⟩
  · rw [fc11_enact, q6, bnd, if_pos (show nI (sL S).length < (4 : Int32) from nI_lt h4 (by decide)), q4, bnd, bnd, q2, bnd, ld11 h, bnd, t1, bnd, st, bnd, q6', bnd, p6, bnd, bnd, tx46 h3 (nI_m1 (by omega))]
  · show mi _ 0 6 = nI (sL S ++ [_]).length
    rw [mi_ne _ _ (by omega), mi_eq, List.length_append]; rfl
  · show mi _ 0 8 = oI (sH S)
    rw [fa.i rfl]; exact l2
  · show mr _ 31 0 = (sH S).bind fun k => ((sL S ++ [(mz σ, sT S, C)])[k]?).map Prod.fst
    rw [fa.r rfl, l3]
    cases hh : sH S with
    | none => rfl
    | some k =>
      have hk := hw.2.2.2.1 k hh
      rw [Option.bind_some, Option.bind_some, app_lt hk]
  · have lw : ∀ {la : Nat} {X : List Int32}, lwAt σ1 la X → lwAt (setI (setI (setR σ1 17 (sL S).length (some (mz σ))) 0 6 (nI ((sL S).length + 1))) 1 1 0) la X := fun hx => hx.fr fa (fun j => hi _ j hx.2.2.2.1 (by have := hx.2.2.2.1; omega)) (fun j => hi _ j (by have := hx.2.2.2.1; omega) (by omega))
    rcases app_get (show (sL S ++ [(mz σ, sT S, C)])[k]? = some q from e) with ⟨hk, e⟩ | ⟨hk, rfl⟩
    · refine ⟨?_, lw (l4 k q e).2⟩
      rw [mr_setI, mr_setI, mr_ne _ _ (by omega)]
      exact (l4 k q e).1
    · refine ⟨?_, lw t4⟩
      rw [mr_setI, mr_setI, hk, mr_eq]
  · show mi _ 0 9 = nI (sE S)
    rw [fa.i rfl]; exact r4
  · show mz σ1 ≤ mz σ + 4
    omega
/-- a plan is put behind the others -/
theorem intend_c (h : Sh σ) (hr : RC σ S) (hw : WS S) {l : List StpT} (hW : StW σ l) (hn : mi σ 13 4 = nI l.length) (hl : l.length ≤ 16) (hz : mz σ + 4 < 1000000) (h4 : (sP S).length < 4) : ∃ σ' : Me, (fc11_intend N 0 σ).bind (fun p24 => fc11_text_46 N (some 0) p24.1 p24.2) = some (nI (sP S).length, σ') ∧ Sh σ' ∧ RC σ' (pnS S (mz σ) l) ∧ (∀ S0 : Sy, WS S0 → RM σ S0 → RM σ' S0) ∧ mz σ' ≤ mz σ + 4 := by
  obtain ⟨σ1, t1, t2, t3, t4⟩ := toPlan_c (N := N) h hW hn hl (by omega)
  have h1 := t2.sh h
  have hr1 := hr.gr t2 h
  have q6 : qI σ 11 7 (some 0) = some (nI (sP S).length) := by simp only [qI, PK h, bnd, hr.2.2.1.1]
  have q4 : qR σ 11 5 (some 0) = some (some 18) := by simp only [qR, PK h, bnd]
  have q2 : qR σ 11 3 (some 0) = some (some 13) := by simp only [qR, PK h, bnd]
  have st : stR σ1 "RainOwed$Plan" 7 (some 18) (nI (sP S).length) (some (mz σ)) = some (setR σ1 18 (sP S).length (some (mz σ))) := by
    unfold stR
    rw [dr_ok t4.1, bnd, h1.ar 18 4 (by decide) rfl (by decide) _ h4, bnd, nI_clamp (by omega)]
  have fR : Fr (fun a _ => a == 18) σ1 (setR σ1 18 (sP S).length (some (mz σ))) := (Fr.rf _ _).setR _ rfl
  have h2 : Sh (setR σ1 18 (sP S).length (some (mz σ))) := fR.sh (by
    have h : ∀ q ∈ rfL, (fun a _ : Nat => a == 18) q.1.1 q.1.2 = false := by decide +kernel
    exact h) h1
  have q6' : qI (setR σ1 18 (sP S).length (some (mz σ))) 11 7 (some 0) = some (nI (sP S).length) := by
    have e : mi (setR σ1 18 (sP S).length (some (mz σ))) 0 7 = nI (sP S).length := hr1.2.2.1.1
    simp only [qI, PK h2, bnd, e]
  have p6 : pI (setR σ1 18 (sP S).length (some (mz σ))) 11 7 (some 0) (nI (sP S).length + (1 : Int32)) = some (setI (setR σ1 18 (sP S).length (some (mz σ))) 0 7 (nI ((sP S).length + 1))) := by simp only [pI, PK h2, bnd, nI_1]
  have h3 : Sh (setI (setR σ1 18 (sP S).length (some (mz σ))) 0 7 (nI ((sP S).length + 1))) := h2
  have fa : Fr (fun a j => a == 18 || (a == 0 && j == 7) || (a == 1 && j == 1)) σ1 (setI (setI (setR σ1 18 (sP S).length (some (mz σ))) 0 7 (nI ((sP S).length + 1))) 1 1 0) := fr_I rfl (fr_I rfl ((Fr.rf _ _).setR _ rfl))
  have hi : ∀ a j, 85 ≤ a → a ≠ 0 → (a == 18 || (a == 0 && j == 7) || (a == 1 && j == 1)) = false := fun a j h1 _ => by simp; omega
  obtain ⟨r1, r2, ⟨p1, p2⟩, r4, r5, r9⟩ := hr1
  have fcl : Fr clS σ1 (setI (setI (setR σ1 18 (sP S).length (some (mz σ))) 0 7 (nI ((sP S).length + 1))) 1 1 0) := fa.mono (fun a j e => by
    simp only [clS, Bool.or_eq_false_iff, Bool.and_eq_false_iff, decide_eq_false_iff_not, beq_eq_false_iff_ne] at e ⊢
    omega)
  refine ⟨setI (setI (setR σ1 18 (sP S).length (some (mz σ))) 0 7 (nI ((sP S).length + 1))) 1 1 0, ?_, h2, ⟨tp_mt, r2.fr fa (b := 0) (.inl (by decide)) rfl rfl (fun _ => rfl) rfl hi, ⟨?_, fun k q e => ?_⟩, ?_, r5.fr fa hw.n6 (fun a j h1 h2 => by simp; omega) (fun a j h1 h2 => by simp; omega), r9.fr fa rfl (fun _ => ⟨rfl, rfl, rfl, rfl⟩)⟩, fun S0 hw0 hm => (hm.gr t2 h).cl fcl hw0, ?_⟩
  · rw [fc11_intend, q6, bnd, if_pos (show nI (sP S).length < (4 : Int32) from nI_lt h4 (by decide)), q4, bnd, bnd, q2, bnd, d13 h, bnd, t1, bnd, st, bnd, q6', bnd, p6, bnd, bnd, tx46 h3 (nI_m1 (by omega))]
  · show mi _ 0 7 = nI (sP S ++ [_]).length
    rw [mi_ne _ _ (by omega), mi_eq, List.length_append]; rfl
  · have pw : ∀ {pa : Nat} {X : Nat × (Nat → Nat × Nat × Int32)}, pnAt σ1 pa X → pnAt (setI (setI (setR σ1 18 (sP S).length (some (mz σ))) 0 7 (nI ((sP S).length + 1))) 1 1 0) pa X := fun hx => by
      have h85 := hx.2.2.2.2.1
      exact hx.fr fa (fun j => ⟨hi _ j h85 (by omega), hi _ j (by omega) (by omega), hi _ j (by omega) (by omega), hi _ j (by omega) (by omega)⟩)
    rcases app_get (show (sP S ++ [(mz σ, l.length, fun i => l.getD i (0, 0, 0))])[k]? = some q from e) with ⟨hk, e⟩ | ⟨hk, rfl⟩
    · refine ⟨?_, pw (p2 k q e).2⟩
      rw [mr_setI, mr_setI, mr_ne _ _ (by omega)]
      exact (p2 k q e).1
    · refine ⟨?_, pw t4⟩
      rw [mr_setI, mr_setI, hk, mr_eq]
  · show mi _ 0 9 = nI (sE S)
    rw [fa.i rfl]; exact r4
  · show mz σ1 ≤ mz σ + 4
    omega
theorem cX0_fr {σ' : Me} (f : Fr (cX 0) σ σ') : Fr clS σ σ' := f.mono (fun _ _ e => cX0_l e)
/-- a text told to the class -/
theorem text_c (h : Sh σ) (hr : RC σ S) (hw : WS S) (hN : 300 ≤ N) (hz : mz σ + 4 < 1000000) {k : Nat} (hk : k ≤ 2) : OkC σ (txA S (mz σ) k).2 (txA S (mz σ) k).1 (fc11_text N 0 (nI k) σ) := by
  obtain ⟨v, σ1, r1, r2, r3⟩ := reads_c (N := N) h hr hw hN hk
  have h1 := r2.sh (cX_f 0) h
  have hr1 := hr.fr r2 (.inl (by decide)) hw.n6
  have fc := cX0_fr r2
  have e0 : fc11_text N 0 (nI k) σ = if v = 0 then some (-1, σ1) else if nI k = 0 then (fc11_settleThere N 0 σ1).bind (fun p24 => fc11_text_46 N (some 0) p24.1 p24.2) else if nI k = (1 : Int32) then (fc11_enact N 0 σ1).bind (fun p36 => fc11_text_46 N (some 0) p36.1 p36.2) else (fc11_intend N 0 σ1).bind (fun p43 => fc11_text_46 N (some 0) p43.1 p43.2) := by
    rw [fc11_text, if_neg (nI_pos (by omega)), if_neg (show ¬ (2 : Int32) < nI k from nI_nlt hk (by decide)), (PK h).1, bnd, r1, bnd]
    simp only [(PK h1).1, bnd]
  have back : ∀ {o : Option (Int32 × Me)} {v : Int32} {S' : Sy}, (∃ σ' : Me, o = some (v, σ') ∧ Sh σ' ∧ RC σ' S' ∧ (∀ S0 : Sy, WS S0 → RM σ1 S0 → RM σ' S0) ∧ mz σ' ≤ mz σ1 + 4) → OkC σ S' v o := fun hx => by
    obtain ⟨σ', x1, x2, x3, x4, x5⟩ := hx
    exact ⟨σ', x1, x2, x3, fun S0 hw0 hm => x4 S0 hw0 (hm.cl fc hw0), by rw [fc.2.1] at x5; exact x5⟩
  have zz : mz σ1 = mz σ := fc.2.1
  rw [e0]
  have none_ : txS S (mz σ) k = none → v = 0 → OkC σ (txA S (mz σ) k).2 (txA S (mz σ) k).1 (if v = 0 then some (-1, σ1) else if nI k = 0 then (fc11_settleThere N 0 σ1).bind (fun p24 => fc11_text_46 N (some 0) p24.1 p24.2) else if nI k = (1 : Int32) then (fc11_enact N 0 σ1).bind (fun p36 => fc11_text_46 N (some 0) p36.1 p36.2) else (fc11_intend N 0 σ1).bind (fun p43 => fc11_text_46 N (some 0) p43.1 p43.2)) := fun e hv => by
    rw [if_pos hv]
    unfold txA
    rw [e]
    exact OkC.of rfl h1 hr1 fc
  have : k = 0 ∨ k = 1 ∨ k = 2 := by omega
  rcases this with rfl | rfl | rfl
  · rcases r3 with ⟨hv, -, f, hf, ef⟩ | ⟨hv, -, x0, -, -⟩
    · refine none_ ?_ hv
      have ef : (match pPlain (sT S) with
        | .inl f => nI f
        | .inr _ => -1) = nI f := ef
      show (match pPlain (sT S) with
        | .inl _ => none
        | .inr D => some (nI D.2.2.1, plS S D)) = none
      cases hp : pPlain (sT S) with
      | inl g => rfl
      | inr D =>
        rw [hp] at ef
        exact absurd ef.symm (nI_m1 (by omega))
    · obtain ⟨D, hp, hD⟩ := x0 rfl
      have hg := pPlain_gd (sT S)
      rw [hp] at hg
      have et : txA S (mz σ) 0 = (nI D.2.2.1, plS S D) := by
        have e : txS S (mz σ) 0 = (match pPlain (sT S) with
          | .inl _ => none
          | .inr D => some (nI D.2.2.1, plS S D)) := rfl
        unfold txA
        rw [e, hp]
        rfl
      obtain ⟨σ2, s1, s2, s3, s4⟩ := settleT_c (N := N) h1 hr1 hw hD hg.1 hg.2
      rw [et, hv, if_neg one_z, if_pos (show nI 0 = 0 from rfl)]
      exact OkC.of s1 s2 s3 (fc.tr s4)
  · rcases r3 with ⟨hv, -, f, hf, ef⟩ | ⟨hv, -, -, x1, -⟩
    · refine none_ ?_ hv
      have ef : (match pLaw (sT S) with
        | .inl f => nI f
        | .inr _ => -1) = nI f := ef
      show (match pLaw (sT S) with
        | .inl _ => none
        | .inr z => if (sL S).length < 4 then some (nI (sL S).length, lwS S (mz σ) z.2) else none) = none
      cases hp : pLaw (sT S) with
      | inl g => rfl
      | inr D =>
        rw [hp] at ef
        exact absurd ef.symm (nI_m1 (by omega))
    · obtain ⟨z, hp, hC⟩ := x1 rfl
      have hg := pLaw_gd (sT S)
      rw [hp] at hg
      obtain ⟨g1, g2, g3, g4⟩ := hg
      have h240 := hw.1.1
      have e : txS S (mz σ) 1 = (match pLaw (sT S) with
        | .inl _ => none
        | .inr z => if (sL S).length < 4 then some (nI (sL S).length, lwS S (mz σ) z.2) else none) := rfl
      rw [hv, if_neg one_z, if_neg (show ¬ nI 1 = 0 by decide), if_pos (show nI 1 = (1 : Int32) from rfl)]
      have et : txA S (mz σ) 1 = if (sL S).length < 4 then (nI (sL S).length, lwS S (mz σ) z.2) else (-1, S) := by
        unfold txA
        rw [e, hp]
        show ((if (sL S).length < 4 then some (nI (sL S).length, lwS S (mz σ) z.2) else none)).getD (-1, S) = _
        by_cases c : (sL S).length < 4
        · rw [if_pos c, if_pos c]; rfl
        · rw [if_neg c, if_neg c]; rfl
      rw [et]
      by_cases c4 : (sL S).length < 4
      · rw [if_pos c4]
        have k := back (enact_c (N := N) h1 hr1 hw hC (by omega) (by omega) c4)
        rw [zz] at k
        exact k
      · have q6 : qI σ1 11 6 (some 0) = some (nI (sL S).length) := by simp only [qI, PK h1, bnd, hr1.2.1.1]
        have h4 := hw.2.1
        rw [if_neg c4, fc11_enact, q6, bnd, if_neg (show ¬ nI (sL S).length < (4 : Int32) from nI_nlt (show 4 ≤ (sL S).length by omega) (by omega)), bnd, fc11_text_46, if_pos rfl]
        exact OkC.of rfl h1 hr1 fc
  · rcases r3 with ⟨hv, -, f, hf, ef⟩ | ⟨hv, -, -, -, x2⟩
    · refine none_ ?_ hv
      have ef : (match pPlan (sT S) with
        | .inl f => nI f
        | .inr _ => -1) = nI f := ef
      show (match pPlan (sT S) with
        | .inl _ => none
        | .inr l => if (sP S).length < 4 then some (nI (sP S).length, pnS S (mz σ) l) else none) = none
      cases hp : pPlan (sT S) with
      | inl g => rfl
      | inr D =>
        rw [hp] at ef
        exact absurd ef.symm (nI_m1 (by omega))
    · obtain ⟨l, hp, hn, hW⟩ := x2 rfl
      have hg := pPlan_gd (sT S)
      rw [hp] at hg
      obtain ⟨g1, g2, g3⟩ := hg
      have e : txS S (mz σ) 2 = (match pPlan (sT S) with
        | .inl _ => none
        | .inr l => if (sP S).length < 4 then some (nI (sP S).length, pnS S (mz σ) l) else none) := rfl
      rw [hv, if_neg one_z, if_neg (show ¬ nI 2 = 0 by decide), if_neg (show ¬ nI 2 = (1 : Int32) by decide)]
      have et : txA S (mz σ) 2 = if (sP S).length < 4 then (nI (sP S).length, pnS S (mz σ) l) else (-1, S) := by
        unfold txA
        rw [e, hp]
        show ((if (sP S).length < 4 then some (nI (sP S).length, pnS S (mz σ) l) else none)).getD (-1, S) = _
        by_cases c : (sP S).length < 4
        · rw [if_pos c, if_pos c]; rfl
        · rw [if_neg c, if_neg c]; rfl
      rw [et]
      by_cases c4 : (sP S).length < 4
      · rw [if_pos c4]
        have k := back (intend_c (N := N) h1 hr1 hw hW hn g2 (by omega) c4)
        rw [zz] at k
        exact k
      · have q6 : qI σ1 11 7 (some 0) = some (nI (sP S).length) := by simp only [qI, PK h1, bnd, hr1.2.2.1.1]
        have h4 := hw.2.2.2.2.1
        rw [if_neg c4, fc11_intend, q6, bnd, if_neg (show ¬ nI (sP S).length < (4 : Int32) from nI_nlt (show 4 ≤ (sP S).length by omega) (by omega)), bnd, fc11_text_46, if_pos rfl]
        exact OkC.of rfl h1 hr1 fc
theorem text_n {x : Int32} (hx : ¬ ∃ k : Nat, k ≤ 2 ∧ x = nI k) : fc11_text N 0 x σ = some (-1, σ) := by
  rw [fc11_text]
  rcases sort_n hx with c | ⟨c1, c2, c3⟩
  · rw [if_pos c]
  · rw [if_neg c1, if_pos c2]
theorem txA_ok (hw : WS S) (hx : LX (sL S)) {la k : Nat} : WS (txA S la k).2 ∧ LX (sL (txA S la k).2) := by
  unfold txA txS
  split
  · cases hp : pPlain (sT S) with
    | inl f => exact ⟨hw, hx⟩
    | inr D =>
      have hg := pPlain_gd (sT S)
      rw [hp] at hg
      exact ⟨plS_ok hw hg.1 hg.2, hx⟩
  · split
    · cases hp : pLaw (sT S) with
      | inl f => exact ⟨hw, hx⟩
      | inr z =>
        simp only
        by_cases c : (sL S).length < 4
        · rw [if_pos c]
          exact ⟨lwS_ok hw hp c, lwS_x hx hp⟩
        · rw [if_neg c]
          exact ⟨hw, hx⟩
    · cases hp : pPlan (sT S) with
      | inl f => exact ⟨hw, hx⟩
      | inr l =>
        simp only
        by_cases c : (sP S).length < 4
        · rw [if_pos c]
          exact ⟨pnS_ok hw hp c, hx⟩
        · rw [if_neg c]
          exact ⟨hw, hx⟩
end TY
