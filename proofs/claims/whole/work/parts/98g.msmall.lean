/-! what is there, in the reference -/
/-- what law, heresy, fell write -/
def mwX : Nat → Nat → Bool := fun a j => (a == 60 && (j == 0 || j == 30 || j == 31 || j == 45)) || a == 79
theorem mwX_f : Sf mwX := by
  have h : ∀ q ∈ rfL, mwX q.1.1 q.1.2 = false := by decide +kernel
  exact h
/-- the reference's own cells -/
def mlS : Nat → Nat → Bool := fun a _ => decide (60 ≤ a) && decide (a < 85)
theorem mhX_l {a j : Nat} (h : mlS a j = false) : mhX a j = false := by
  simp only [mlS, mhX, mX, Bool.or_eq_false_iff, Bool.and_eq_false_iff, decide_eq_false_iff_not, beq_eq_false_iff_ne] at h ⊢
  omega
theorem mwX_l {a j : Nat} (h : mlS a j = false) : mwX a j = false := by
  simp only [mlS, mwX, Bool.or_eq_false_iff, Bool.and_eq_false_iff, decide_eq_false_iff_not, beq_eq_false_iff_ne] at h ⊢
  omega
theorem Fr.ml {σ σ' : Me} (h : Fr mhX σ σ') : Fr mlS σ σ' := h.mono (fun _ _ e => mhX_l e)
section MV
variable {N : Nat} {σ : Me} {S : Sy}
theorem HsM.fr {X : Nat → Nat → Bool} {σ' : Me} {P : Pl} {r : Rw} {lg : Lg} {acts : List Rw} {img : Im} (h : HsM σ P r lg acts img) (k : Fr X σ σ') (h24 : X 60 24 = false) (h39 : X 60 39 = false) (h48 : X 60 48 = false) (h1 : ∀ j, X 65 j = false ∧ X 67 j = false ∧ X 71 j = false ∧ X 77 j = false ∧ X 83 j = false) : HsM σ' P r lg acts img :=
  ⟨h.1.fr k h24 (fun j => ⟨(h1 j).1, (h1 j).2.1⟩), h.2.1.fr k (fun j => (h1 j).2.2.1), h.2.2.1.fr k (fun j _ => (h1 j).2.2.1), h.2.2.2.1.fr k h39 (fun j => (h1 j).2.2.2.1), h.2.2.2.2.fr k h48 (fun j => (h1 j).2.2.2.2)⟩
theorem RM.wf {σ' : Me} (h : RM σ S) (k : Fr mwX σ σ') (hw : WS S) : TpM σ' (sT S) ∧ PnM σ' (sP S) ∧ HsM σ' (sQ S) (sR S) (sG S) (sA S) (sI S) ∧ MemoM σ' (sL S) := by
  obtain ⟨h1, h2, h3, h4, h5, h10⟩ := h
  exact ⟨h1.fr k rfl (fun _ => rfl), h3.fr k hw.2.2.2.2.1 (fun i q e => (hw.2.2.2.2.2.1 i q e).2.1) rfl (fun j hj => rfl) (fun j hj => rfl), h5.fr k rfl rfl rfl (fun _ => ⟨rfl, rfl, rfl, rfl, rfl⟩), h2.2.2.2.fr k (fun _ => ⟨rfl, rfl⟩)⟩
theorem law_m (h : Sh σ) (hr : RM σ S) (hw : WS S) {hold : Option Nat} (hh : holdOK (sL S) hold) : ∃ σ' : Me, fc12_law N 60 (oI hold) σ = some (1, σ') ∧ Sh σ' ∧ Fr mwX σ σ' ∧ RM σ' (withL S hold) := by
  have ht : Sh (setI σ 60 0 0) := h
  have fr : Fr mwX σ (setI (setI σ 60 0 0) 60 30 (oI hold)) := fr_I rfl (fr_I rfl (Fr.rf _ _))
  obtain ⟨w1, w2, w3, w4⟩ := hr.wf fr hw
  have p30 : fc12_law_28 N (some 60) (oI hold) (setI σ 60 0 0) = some (1, setI (setI σ 60 0 0) 60 30 (oI hold)) := by
    simp only [fc12_law_28, pI, PN ht, bnd, retZ1]
  refine ⟨setI (setI σ 60 0 0) 60 30 (oI hold), ?_, h, fr, w1, ⟨?_, mi_eq _ _ _ _, ?_, w4⟩, w2, ?_, w3, ?_⟩
  · rw [fc12_law, th0 h, bnd]
    cases hold with
    | none => rw [if_pos (show oI none = (-1 : Int32) from rfl)]; exact p30
    | some k =>
      have hk : k < (sL S).length := hh k rfl
      have h4 := hw.2.1
      have q7 : qI (setI σ 60 0 0) 12 7 (some 60) = some (nI (sL S).length) := by
        have e : mi (setI σ 60 0 0) 60 7 = nI (sL S).length := (hr.th hw).2.1.1
        simp only [qI, PN ht, bnd, e]
      have n1 : ¬ oI (some k) = (-1 : Int32) := fun e => by
        have e : nI k = -1 := e
        have := nI_pos (n := k) (by omega)
        rw [e] at this
        exact this (by decide)
      rw [if_neg n1, q7, bnd]
      show (fc12_isIn N (Int32.toInt64 (nI k)) 0 _ _).bind _ = _
      rw [inL_y hk (by omega), bnd, if_neg one0]
      exact p30
  · show mi _ 60 7 = _
    rw [fr.i rfl]; exact hr.2.1.1
  · intro i q e
    obtain ⟨b1, b2⟩ := hr.2.1.2.2.1 i q e
    exact ⟨by rw [fr.i rfl]; exact b1, fun j hj => by rw [fr.i rfl]; exact b2 j hj⟩
  · show mi _ 60 31 = _
    rw [mi_ne _ _ (by omega), mi_ne _ _ (by omega)]; exact hr.2.2.2.1
  · refine ⟨?_, fun i q e => ?_⟩
    · rw [mi_ne _ _ (by omega), mi_ne _ _ (by omega)]; exact hr.2.2.2.2.2.1
    · have := hr.2.2.2.2.2.2 i q e
      rw [mi_ne _ _ (by omega), mi_ne _ _ (by omega), mi_ne _ _ (by omega), mi_ne _ _ (by omega), mi_ne _ _ (by omega), mi_ne _ _ (by omega), mi_ne _ _ (by omega), mi_ne _ _ (by omega)]
      exact this
theorem law_mn (h : Sh σ) (hr : RM σ S) (hw : WS S) {x : Int32} (hx : ¬ ∃ hold : Option Nat, holdOK (sL S) hold ∧ x = oI hold) : fc12_law N 60 x σ = some (0, setI σ 60 0 0) := by
  have ht : Sh (setI σ 60 0 0) := h
  have h4 := hw.2.1
  have q7 : qI (setI σ 60 0 0) 12 7 (some 60) = some (nI (sL S).length) := by
    have e : mi (setI σ 60 0 0) 60 7 = nI (sL S).length := (hr.th hw).2.1.1
    simp only [qI, PN ht, bnd, e]
  rw [fc12_law, th0 h, bnd, if_neg (show ¬ x = (-1 : Int32) from fun e => hx ⟨none, (fun k e => by cases e), e⟩), q7, bnd, inL_n (by omega) (fun ⟨j, h1, h2⟩ => hx ⟨some j, (fun k e => by cases e; exact h1), h2⟩), bnd, if_pos rfl]
  rfl
end MV
