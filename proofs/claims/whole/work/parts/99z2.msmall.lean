/-! small questions to the reference -/
theorem lit02 {x : Int32} (hx : ¬ ∃ j : Nat, 0 ≤ j ∧ j ≤ 2 ∧ x = nI j) : ¬ x = 0 ∧ ¬ x = (1 : Int32) ∧ ¬ x = (2 : Int32) := ⟨fun e => hx ⟨0, by decide, by decide, e⟩, fun e => hx ⟨1, by decide, by decide, e⟩, fun e => hx ⟨2, by decide, by decide, e⟩⟩
section SM
variable {N : Nat} {σ : Me} {S : Sy}
theorem row71 (h : Sh σ) (hr : RM σ S) (hw : WS S) {f k : Nat} (hf : f < pn (sQ S)) (hk : k < 4) : ldI σ (some 71) (nI (4 * f + k)) = some (nI (if k = 0 then ro (sR S) f else if k = 1 then rn (sR S) f else if k = 2 then rw_ (sR S) f else rc (sR S) f)) := by
  have h6 := hw.n6
  obtain ⟨e0, e1, e2, e3⟩ := hr.2.2.2.2.1.2.1.2.2 f hf
  rw [ldI_lo _ _ _ (by decide), A71 h _ (by omega), bnd, nI_clamp (by omega)]
  have : k = 0 ∨ k = 1 ∨ k = 2 ∨ k = 3 := by omega
  rcases this with rfl | rfl | rfl | rfl
  · exact congrArg some e0
  · exact congrArg some e1
  · exact congrArg some e2
  · exact congrArg some e3
theorem q28 (h : Sh σ) : qR σ 12 28 (some 60) = some (some 71) := by simp only [qR, PN h, bnd]
theorem rule_m (h : Sh σ) (hr : RM σ S) (hw : WS S) (x : Int32) : fc12_rule N 60 x σ = some (ruA (sQ S) (sR S) x, setI σ 60 0 0) := by
  have h0 : Sh (setI σ 60 0 0) := h
  have hr0 := hr.th hw
  have h6 := hw.n6
  unfold ruA
  rw [fc12_rule, th0 h, bnd, mq h0 hr0.n24, bnd]
  by_cases c0 : pn (sQ S) = 0
  · rw [if_pos ((nI_ze (by omega)).mpr c0), if_pos c0]
  · rw [if_neg (fun w => c0 ((nI_ze (by omega)).mp w)), if_neg c0]
    by_cases c : ∃ j : Nat, 0 ≤ j ∧ j ≤ 2 ∧ x = nI j
    · obtain ⟨j, -, hj, rfl⟩ := c
      have q18 : qR (setI σ 60 0 0) 12 18 (some 60) = some (some 65) := by simp only [qR, PN h0, bnd]
      obtain ⟨p1, p2, p3, -⟩ := hr0.2.2.2.2.1.1
      have e24 : mi (setI σ 60 0 0) 71 24 = nI (rp (sR S)) := hr0.2.2.2.2.1.2.1.1
      rw [in0_2_y (Nat.zero_le _) hj, bnd, if_neg one_z]
      have : j = 0 ∨ j = 1 ∨ j = 2 := by omega
      rcases this with rfl | rfl | rfl
      · rw [if_neg (show ¬ nI 0 = (2 : Int32) by decide), q18, bnd, ldI_lo _ _ _ (by decide), A65 h0 0 (by decide), bnd, nI_clamp (by decide), p2, bnd, if_pos (show nI 0 = 0 from rfl)]
      · rw [if_neg (show ¬ nI 1 = (2 : Int32) by decide), q18, bnd, ldI_lo _ _ _ (by decide), A65 h0 1 (by decide), bnd, nI_clamp (by decide), p3, bnd, if_neg (show ¬ nI 1 = 0 by decide), if_pos (show nI 1 = (1 : Int32) from rfl)]
      · rw [if_pos (show nI 2 = (2 : Int32) from rfl), q28 h0, bnd, y24, ldI_lo _ _ _ (by decide), A71 h0 24 (by decide), bnd, nI_clamp (by decide), e24, bnd, if_neg (show ¬ nI 2 = 0 by decide), if_neg (show ¬ nI 2 = (1 : Int32) by decide), if_pos (show nI 2 = (2 : Int32) from rfl)]
    · obtain ⟨n0, n1, n2⟩ := lit02 c
      rw [in0_2_n c, bnd, if_pos rfl, if_neg n0, if_neg n1, if_neg n2]
theorem field_m (h : Sh σ) (hr : RM σ S) (hw : WS S) {f w : Nat} (hf : f < pn (sQ S)) (hw4 : w ≤ 4) : fc12_field N 60 (nI f) (nI w) σ = some (nI (fiA (sQ S) (sR S) f w), setI σ 60 0 0) := by
  have h0 : Sh (setI σ 60 0 0) := h
  have hr0 := hr.th hw
  have h6 := hw.n6
  have e0 : mi (setI σ 60 0 0) 60 0 = 0 := mi_eq _ _ _ _
  have ev := val_m (N := N) h0 hr0.2.2.2.2.1.1 hf h6
  rw [fc12_field, d60 h, bnd, mfield_y h hr.n24 h6 hf, bnd, if_neg one_z, in0_4_y (Nat.zero_le _) hw4, bnd, if_neg one_z, fc12_field_26, mp h, bnd, mq h0 e0, bnd, if_pos (show (0 : Int32) ≤ 0 by decide)]
  unfold fiA
  have : w = 0 ∨ w = 1 ∨ w = 2 ∨ w = 3 ∨ w = 4 := by omega
  rcases this with rfl | rfl | rfl | rfl | rfl
  · have ei : (4 : Int32) * nI f + nI 0 = nI (4 * f + 0) := by rw [y4, pk_mul, nI_add]
    rw [if_neg (show ¬ nI 0 = (3 : Int32) by decide), if_neg (show ¬ nI 0 = (4 : Int32) by decide), q28 h0, bnd, ei, row71 h0 hr0 hw hf (by decide), bnd]; rfl
  · have ei : (4 : Int32) * nI f + nI 1 = nI (4 * f + 1) := by rw [y4, pk_mul, nI_add]
    rw [if_neg (show ¬ nI 1 = (3 : Int32) by decide), if_neg (show ¬ nI 1 = (4 : Int32) by decide), q28 h0, bnd, ei, row71 h0 hr0 hw hf (by decide), bnd]; rfl
  · have ei : (4 : Int32) * nI f + nI 2 = nI (4 * f + 2) := by rw [y4, pk_mul, nI_add]
    rw [if_neg (show ¬ nI 2 = (3 : Int32) by decide), if_neg (show ¬ nI 2 = (4 : Int32) by decide), q28 h0, bnd, ei, row71 h0 hr0 hw hf (by decide), bnd]; rfl
  · rw [if_pos (show nI 3 = (3 : Int32) from rfl), d60 h0, bnd, ev, bnd]; rfl
  · have ei : (4 : Int32) * nI f + (3 : Int32) = nI (4 * f + 3) := by rw [y4, pk_mul, y3, nI_add]
    rw [if_neg (show ¬ nI 4 = (3 : Int32) by decide), if_pos (show nI 4 = (4 : Int32) from rfl), q28 h0, bnd, ei, row71 h0 hr0 hw hf (by decide), bnd]; rfl
theorem field_mn (h : Sh σ) (hr : RM σ S) (hw : WS S) {x y : Int32} (hx : ¬ ∃ f w : Nat, f < pn (sQ S) ∧ w ≤ 4 ∧ x = nI f ∧ y = nI w) : fc12_field N 60 x y σ = some (0, setI σ 60 0 1) := by
  have h6 := hw.n6
  have h0 : Sh (setI σ 60 0 1) := h
  have e0 : mi (setI σ 60 0 1) 60 0 = 1 := mi_eq _ _ _ _
  have bad : fc12_field_25 N (some 60) x y (some 60) σ = some (0, setI σ 60 0 1) := by
    rw [fc12_field_25, fc12_field_26, mp h, bnd, mq h0 e0, bnd, if_neg (show ¬ (1 : Int32) ≤ 0 by decide)]
  rw [fc12_field, d60 h, bnd]
  rcases nix x (n := pn (sQ S)) (by omega) with q | ⟨i, hi, rfl⟩
  · rw [mfield_n h hr.n24 q, bnd, if_pos rfl]; exact bad
  · rw [mfield_y h hr.n24 h6 hi, bnd, if_neg one_z, in0_4_n (fun ⟨j, _, h1, h2⟩ => hx ⟨i, j, hi, h1, rfl, h2⟩), bnd, if_pos rfl]
    exact bad
theorem wfr_l {σ' : Me} (f : Fr mwX σ σ') : Fr mlS σ σ' := f.mono (fun _ _ e => mwX_l e)
theorem heresy_m (h : Sh σ) (hr : RM σ S) (hw : WS S) {v : Nat} (hv : v ≤ 9) (hne : v ≠ sE S) : OkM σ (withE S v) 1 (fc12_heresy N 60 (nI v) σ) := by
  have h0 : Sh (setI σ 60 0 0) := h
  have hr0 := hr.th hw
  have hE := hw.2.2.2.2.2.2.1
  have fr : Fr mwX σ (setI (setI σ 60 0 0) 60 31 (nI v)) := fr_I rfl (fr_I rfl (Fr.rf _ _))
  obtain ⟨w1, w2, w3, w4⟩ := hr.wf fr hw
  have e31 : mi (setI σ 60 0 0) 60 31 = nI (sE S) := hr0.2.2.2.1
  rw [fc12_heresy, th0 h, bnd, in0_9_y (Nat.zero_le _) hv, bnd, if_neg one_z, mq h0 e31, bnd, if_neg (fun w => hne ((nI_eq (by omega) (by omega)).mp w)), mp h0, bnd, retZ1]
  refine ⟨_, rfl, h, ⟨w1, ⟨?_, ?_, fun i q e => ?_, w4⟩, w2, mi_eq _ _ _ _, w3, ?_, fun i q e => ?_⟩, wfr_l fr⟩
  · show mi _ 60 7 = _
    rw [fr.i rfl]; exact hr.2.1.1
  · show mi _ 60 30 = _
    rw [mi_ne _ _ (by omega), mi_ne _ _ (by omega)]; exact hr.2.1.2.1
  · obtain ⟨b1, b2⟩ := hr.2.1.2.2.1 i q e
    exact ⟨by rw [fr.i rfl]; exact b1, fun j hj => by rw [fr.i rfl]; exact b2 j hj⟩
  · show mi _ 60 45 = _
    rw [mi_ne _ _ (by omega), mi_ne _ _ (by omega)]; exact hr.2.2.2.2.2.1
  · have := hr.2.2.2.2.2.2 i q e
    simp (disch := omega) only [mi_ne]
    exact this
theorem heresy_mn (h : Sh σ) (hr : RM σ S) (hw : WS S) {x : Int32} (hx : ¬ ∃ v : Nat, v ≤ 9 ∧ v ≠ sE S ∧ x = nI v) : fc12_heresy N 60 x σ = some (0, setI σ 60 0 0) := by
  have h0 : Sh (setI σ 60 0 0) := h
  have hr0 := hr.th hw
  have e31 : mi (setI σ 60 0 0) 60 31 = nI (sE S) := hr0.2.2.2.1
  rw [fc12_heresy, th0 h, bnd]
  by_cases c : ∃ j : Nat, 0 ≤ j ∧ j ≤ 9 ∧ x = nI j
  · obtain ⟨j, -, hj, rfl⟩ := c
    have e : j = sE S := by
      rcases Nat.decEq j (sE S) with w | w
      · exact absurd ⟨j, hj, w, rfl⟩ hx
      · exact w
    rw [in0_9_y (Nat.zero_le _) hj, bnd, if_neg one_z, mq h0 e31, bnd, if_pos (by rw [e]), retZ0]
  · rw [in0_9_n c, bnd, if_pos rfl, retZ0]
theorem fell_m (h : Sh σ) (hr : RM σ S) (hw : WS S) {f rain v : Nat} (hf : f < pn (sQ S)) (hrain : rain ≤ 99) (hv : v ≤ 99) (hl : (sF S).length < 10) (had : Bool) : OkM σ (withF S (sF S ++ [(f, rain, v, had)])) (nI ((sF S).length + 1)) (fc12_fell N 60 (nI f) (nI rain) (nI v) (bI had) σ) := by
  have h0 : Sh (setI σ 60 0 0) := h
  have hr0 := hr.th hw
  have h6 := hw.n6
  have e45 : mi (setI σ 60 0 0) 60 45 = nI (sF S).length := hr0.2.2.2.2.2.1
  have n10 : ¬ nI (sF S).length = (10 : Int32) := fun w => by have := (nI_eq (b := 10) (by omega) (by decide)).mp w; omega
  generalize hc : (sF S).length = c at hl e45 n10 ⊢
  have q42 : ∀ τ : Me, Sh τ → qR τ 12 42 (some 60) = some (some 79) := fun τ hτ => by simp only [qR, PN hτ, bnd]
  have st : ∀ (τ : Me) (i : Nat) (x : Int32), Sh τ → i < 40 → stI τ (some 79) (nI i) x = some (setI τ 79 i x) := fun τ i x hτ hi => by unfold stI; rw [A79 hτ i hi, bnd, nI_clamp (by omega)]
  have i0 : (4 : Int32) * nI c = nI (4 * c) := by rw [y4, pk_mul]
  have i1 : nI (4 * c) + (1 : Int32) = nI (4 * c + 1) := nI_1 _
  have i2 : nI (4 * c) + (2 : Int32) = nI (4 * c + 2) := by rw [y2, nI_add]
  have i3 : nI (4 * c) + (3 : Int32) = nI (4 * c + 3) := by rw [y3, nI_add]
  have h1 : Sh (setI (setI σ 60 0 0) 79 (4 * c) (nI f)) := h
  have h2 : Sh (setI (setI (setI σ 60 0 0) 79 (4 * c) (nI f)) 79 (4 * c + 1) (nI rain)) := h
  have h3 : Sh (setI (setI (setI (setI σ 60 0 0) 79 (4 * c) (nI f)) 79 (4 * c + 1) (nI rain)) 79 (4 * c + 2) (nI v)) := h
  have e1 : mi (setI (setI σ 60 0 0) 79 (4 * c) (nI f)) 60 45 = nI c := by rw [mi_ne _ _ (by omega)]; exact e45
  have e2 : mi (setI (setI (setI σ 60 0 0) 79 (4 * c) (nI f)) 79 (4 * c + 1) (nI rain)) 60 45 = nI c := by rw [mi_ne _ _ (by omega)]; exact e1
  have e3 : mi (setI (setI (setI (setI σ 60 0 0) 79 (4 * c) (nI f)) 79 (4 * c + 1) (nI rain)) 79 (4 * c + 2) (nI v)) 60 45 = nI c := by rw [mi_ne _ _ (by omega)]; exact e2
  have h4 : Sh (setI (setI (setI (setI (setI σ 60 0 0) 79 (4 * c) (nI f)) 79 (4 * c + 1) (nI rain)) 79 (4 * c + 2) (nI v)) 79 (4 * c + 3) (bI had)) := h
  have e4 : mi (setI (setI (setI (setI (setI σ 60 0 0) 79 (4 * c) (nI f)) 79 (4 * c + 1) (nI rain)) 79 (4 * c + 2) (nI v)) 79 (4 * c + 3) (bI had)) 60 45 = nI c := by rw [mi_ne _ _ (by omega)]; exact e3
  have h5 : Sh (setI (setI (setI (setI (setI (setI σ 60 0 0) 79 (4 * c) (nI f)) 79 (4 * c + 1) (nI rain)) 79 (4 * c + 2) (nI v)) 79 (4 * c + 3) (bI had)) 60 45 (nI (c + 1))) := h
  have e105 : fc12_fell_105 N (some 60) (some 79) (nI (4 * c + 3)) (bI had) (setI (setI (setI (setI σ 60 0 0) 79 (4 * c) (nI f)) 79 (4 * c + 1) (nI rain)) 79 (4 * c + 2) (nI v)) = some (nI (c + 1), setI (setI (setI (setI (setI (setI σ 60 0 0) 79 (4 * c) (nI f)) 79 (4 * c + 1) (nI rain)) 79 (4 * c + 2) (nI v)) 79 (4 * c + 3) (bI had)) 60 45 (nI (c + 1))) := by
    rw [fc12_fell_105, st _ _ _ h3 (by omega), bnd, mq h4 e4, bnd, nI_1, mp h4, bnd, mq h5 (mi_eq _ _ _ _), bnd]
  have fr : Fr mwX σ (setI (setI (setI (setI (setI (setI σ 60 0 0) 79 (4 * c) (nI f)) 79 (4 * c + 1) (nI rain)) 79 (4 * c + 2) (nI v)) 79 (4 * c + 3) (bI had)) 60 45 (nI (c + 1))) := fr_I rfl (fr_I rfl (fr_I rfl (fr_I rfl (fr_I rfl (fr_I rfl (Fr.rf _ _))))))
  obtain ⟨w1, w2, w3, w4⟩ := hr.wf fr hw
  have eM : fc12_fell N 60 (nI f) (nI rain) (nI v) (bI had) σ = some (nI (c + 1), setI (setI (setI (setI (setI (setI σ 60 0 0) 79 (4 * c) (nI f)) 79 (4 * c + 1) (nI rain)) 79 (4 * c + 2) (nI v)) 79 (4 * c + 3) (bI had)) 60 45 (nI (c + 1))) := by
    rw [fc12_fell, th0 h, bnd, d60 h0, bnd, mfield_y h0 hr0.n24 h6 hf, bnd, if_neg one_z, mrain_y hrain, bnd, if_neg one_z, in0_99_y (Nat.zero_le _) hv, bnd, if_neg one_z, mq h0 e45, bnd, if_neg n10, q42 _ h0, bnd, bnd, i0, st _ _ _ h0 (by omega), bnd, q42 _ h1, bnd, mq h1 e1, bnd, i0, i1, st _ _ _ h1 (by omega), bnd, q42 _ h2, bnd, mq h2 e2, bnd, i0, i2, st _ _ _ h2 (by omega), bnd, q42 _ h3, bnd, mq h3 e3, bnd, i0, i3]
    cases had with
    | false => rw [if_pos (show bI false = 0 from rfl)]; exact e105
    | true => rw [if_neg (show ¬ bI true = 0 by decide)]; exact e105
  refine ⟨_, eM, h, ⟨w1, ⟨?_, ?_, fun i q e => ?_, w4⟩, w2, ?_, w3, ?_, fun k q e => ?_⟩, wfr_l fr⟩
  · show mi _ 60 7 = _
    rw [fr.i rfl]; exact hr.2.1.1
  · show mi _ 60 30 = _
    simp (disch := omega) only [mi_ne]; exact hr.2.1.2.1
  · obtain ⟨b1, b2⟩ := hr.2.1.2.2.1 i q e
    exact ⟨by rw [fr.i rfl]; exact b1, fun j hj => by rw [fr.i rfl]; exact b2 j hj⟩
  · show mi _ 60 31 = _
    simp (disch := omega) only [mi_ne]; exact hr.2.2.2.1
  · show mi _ 60 45 = nI (sF S ++ [_]).length
    rw [mi_eq, List.length_append, hc]; rfl
  · rcases app_get (show (sF S ++ [(f, rain, v, had)])[k]? = some q from e) with ⟨hk, e⟩ | ⟨hk, rfl⟩
    · simp (disch := omega) only [mi_ne]
      exact hr.2.2.2.2.2.2 k q e
    · rw [hk, hc]
      simp (disch := omega) only [mi_ne, mi_eq]
      refine ⟨trivial, trivial, trivial, ?_⟩
      cases had <;> rfl
theorem fell_mn (h : Sh σ) (hr : RM σ S) (hw : WS S) {x y z u : Int32} (hx : ¬ ∃ f rain v : Nat, f < pn (sQ S) ∧ rain < 100 ∧ v ≤ 99 ∧ (sF S).length < 10 ∧ x = nI f ∧ y = nI rain ∧ z = nI v) : fc12_fell N 60 x y z u σ = some (-1, setI σ 60 0 0) := by
  have h0 : Sh (setI σ 60 0 0) := h
  have hr0 := hr.th hw
  have h6 := hw.n6
  have hl := hw.2.2.2.2.2.2.2.2.1
  have e45 : mi (setI σ 60 0 0) 60 45 = nI (sF S).length := hr0.2.2.2.2.2.1
  rw [fc12_fell, th0 h, bnd, d60 h0, bnd]
  rcases nix x (n := pn (sQ S)) (by omega) with q | ⟨i, hi, rfl⟩
  · rw [mfield_n h0 hr0.n24 q, bnd, if_pos rfl]
  · rw [mfield_y h0 hr0.n24 h6 hi, bnd, if_neg one_z]
    by_cases c : ∃ j : Nat, j ≤ 99 ∧ y = nI j
    · obtain ⟨j, hj, rfl⟩ := c
      rw [mrain_y hj, bnd, if_neg one_z]
      by_cases c2 : ∃ v : Nat, 0 ≤ v ∧ v ≤ 99 ∧ z = nI v
      · obtain ⟨v, -, hv, rfl⟩ := c2
        have c3 : ¬ (sF S).length < 10 := fun w => hx ⟨i, j, v, hi, by omega, hv, w, rfl, rfl, rfl⟩
        rw [in0_99_y (Nat.zero_le _) hv, bnd, if_neg one_z, mq h0 e45, bnd, if_pos (show nI (sF S).length = (10 : Int32) by rw [show (sF S).length = 10 by omega]; rfl)]
      · rw [in0_99_n c2, bnd, if_pos rfl]
    · rw [mrain_n c, bnd, if_pos rfl]
/-! sums, greatest, bits -/
def colN (r : Rw) (k f : Nat) : Nat := if k = 0 then ro r f else if k = 1 then rn r f else if k = 2 then rw_ r f else rc r f
theorem col_le (hw : WS S) (h0 : pn (sQ S) ≠ 0) {f k : Nat} (hf : f < pn (sQ S)) : colN (sR S) k f ≤ 999 := by
  obtain ⟨b1, b2, b3, -⟩ := hw.hs.yes h0
  obtain ⟨a1, a2, a3, a4⟩ := b3.2.2 f hf
  unfold colN
  repeat' split
  all_goals omega
theorem sum4_m (h : Sh σ) (hr : RM σ S) (hw : WS S) {k : Nat} (hk : k < 4) : ∀ (m j fu acc : Nat), j + m = pn (sQ S) → m < fu → acc ≤ 999 * j → fc12_sumOf_4 N fu (some 60) (nI k) (nI acc) (nI j) σ = some (nI (smN (colN (sR S) k) m j acc), σ)
  | _, _, 0, _, _, h0, _ => absurd h0 (Nat.not_lt_zero _)
  | 0, j, fu + 1, acc, hj, _, _ => by
    have h6 := hw.n6
    rw [fc12_sumOf_4, mq h hr.n24, bnd, if_pos (nI_le (by omega) (by omega))]
    rfl
  | m + 1, j, fu + 1, acc, hj, h0, ha => by
    have h6 := hw.n6
    have ei : (4 : Int32) * nI j + nI k = nI (4 * j + k) := by rw [y4, pk_mul, nI_add]
    have hc := col_le (k := k) hw (by omega) (show j < pn (sQ S) by omega)
    rw [fc12_sumOf_4, mq h hr.n24, bnd, if_neg (nI_ge (by omega) (by omega)), q28 h, bnd, ei, row71 h hr hw (by omega) hk, bnd, nI_add, nI_1]
    exact sum4_m h hr hw hk m (j + 1) fu (acc + colN (sR S) k j) (by omega) (by omega) (by omega)
theorem sumOf_m (h : Sh σ) (hr : RM σ S) (hw : WS S) (hN : 10 ≤ N) {k : Nat} (hk : k < 4) : fc12_sumOf N 60 (nI k) σ = some (nI (smN (colN (sR S) k) (pn (sQ S)) 0 0), σ) :=
  sum4_m h hr hw hk (pn (sQ S)) 0 N 0 (by omega) (by have := hw.n6; omega) (by omega)
theorem hi5_m (h : Sh σ) (hr : RM σ S) (hw : WS S) {k : Nat} (hk : k < 4) : ∀ (m j fu b : Nat), j + m = pn (sQ S) → m < fu → b < pn (sQ S) → fc12_greatest_5 N fu (some 60) (nI k) (1 : Int32) (nI b) (nI j) σ = some (nI (hiN (colN (sR S) k) m j b), σ)
  | _, _, 0, _, _, h0, _ => absurd h0 (Nat.not_lt_zero _)
  | 0, j, fu + 1, b, hj, _, _ => by
    have h6 := hw.n6
    rw [fc12_greatest_5, mq h hr.n24, bnd, if_pos (nI_le (by omega) (by omega))]
    rfl
  | m + 1, j, fu + 1, b, hj, h0, hb => by
    have h6 := hw.n6
    have ei : (4 : Int32) * nI j + nI k = nI (4 * j + k) := by rw [y4, pk_mul, nI_add]
    have eb : (4 : Int32) * nI b + nI k = nI (4 * b + k) := by rw [y4, pk_mul, nI_add]
    have hc := col_le (k := k) hw (by omega) (show j < pn (sQ S) by omega)
    have hc2 := col_le (k := k) hw (by omega) hb
    have e1 : ∀ x : Int32, (1 : Int32) * x = x := fun x => Int32.one_mul x
    rw [fc12_greatest_5, mq h hr.n24, bnd, if_neg (nI_ge (by omega) (by omega)), q28 h, bnd, ei, row71 h hr hw (by omega) hk, bnd, bnd, eb, row71 h hr hw hb hk, bnd, e1, e1]
    show (if nI (colN (sR S) k j) ≤ nI (colN (sR S) k b) then _ else _) = _
    by_cases c : colN (sR S) k j ≤ colN (sR S) k b
    · rw [if_pos (nI_le c (by omega)), fc12_greatest_48, nI_1, hi5_m h hr hw hk m (j + 1) fu b (by omega) (by omega) hb]
      have : hiN (colN (sR S) k) (m + 1) j b = hiN (colN (sR S) k) m (j + 1) b := by
        rw [hiN, if_pos c]
      rw [this]
    · rw [if_neg (nI_ge (by omega) (by omega)), fc12_greatest_48, nI_1, hi5_m h hr hw hk m (j + 1) fu j (by omega) (by omega) (by omega)]
      have : hiN (colN (sR S) k) (m + 1) j b = hiN (colN (sR S) k) m (j + 1) j := by
        rw [hiN, if_neg c]
      rw [this]
theorem lo5_m (h : Sh σ) (hr : RM σ S) (hw : WS S) {k : Nat} (hk : k < 4) : ∀ (m j fu b : Nat), j + m = pn (sQ S) → m < fu → b < pn (sQ S) → fc12_greatest_5 N fu (some 60) (nI k) (-1 : Int32) (nI b) (nI j) σ = some (nI (loN (colN (sR S) k) m j b), σ)
  | _, _, 0, _, _, h0, _ => absurd h0 (Nat.not_lt_zero _)
  | 0, j, fu + 1, b, hj, _, _ => by
    have h6 := hw.n6
    rw [fc12_greatest_5, mq h hr.n24, bnd, if_pos (nI_le (by omega) (by omega))]
    rfl
  | m + 1, j, fu + 1, b, hj, h0, hb => by
    have h6 := hw.n6
    have ei : (4 : Int32) * nI j + nI k = nI (4 * j + k) := by rw [y4, pk_mul, nI_add]
    have eb : (4 : Int32) * nI b + nI k = nI (4 * b + k) := by rw [y4, pk_mul, nI_add]
    have hc := col_le (k := k) hw (by omega) (show j < pn (sQ S) by omega)
    have hc2 := col_le (k := k) hw (by omega) hb
    have em : (-1 : Int32) * nI (colN (sR S) k j) ≤ (-1 : Int32) * nI (colN (sR S) k b) ↔ colN (sR S) k b ≤ colN (sR S) k j := by
      have m1 : (-1 : Int32).toInt = -1 := rfl
      have t1 := nI_toInt (n := colN (sR S) k j) (by omega)
      have t2 := nI_toInt (n := colN (sR S) k b) (by omega)
      rw [i_toInt_le, fb_mulI (by rw [m1, t1]; omega) (by rw [m1, t1]; omega), fb_mulI (by rw [m1, t2]; omega) (by rw [m1, t2]; omega), m1, t1, t2]
      omega
    rw [fc12_greatest_5, mq h hr.n24, bnd, if_neg (nI_ge (by omega) (by omega)), q28 h, bnd, ei, row71 h hr hw (by omega) hk, bnd, bnd, eb, row71 h hr hw hb hk, bnd]
    show (if (-1 : Int32) * nI (colN (sR S) k j) ≤ (-1 : Int32) * nI (colN (sR S) k b) then _ else _) = _
    by_cases c : colN (sR S) k b ≤ colN (sR S) k j
    · rw [if_pos (em.mpr c), fc12_greatest_48, nI_1, lo5_m h hr hw hk m (j + 1) fu b (by omega) (by omega) hb]
      have : loN (colN (sR S) k) (m + 1) j b = loN (colN (sR S) k) m (j + 1) b := by
        rw [loN, if_pos c]
      rw [this]
    · rw [if_neg (fun w => c (em.mp w)), fc12_greatest_48, nI_1, lo5_m h hr hw hk m (j + 1) fu j (by omega) (by omega) (by omega)]
      have : loN (colN (sR S) k) (m + 1) j b = loN (colN (sR S) k) m (j + 1) j := by
        rw [loN, if_neg c]
      rw [this]
theorem grt_m (h : Sh σ) (hr : RM σ S) (hw : WS S) (hN : 10 ≤ N) (h0 : pn (sQ S) ≠ 0) {k : Nat} (hk : k < 4) : fc12_greatest N 60 (nI k) (1 : Int32) σ = some (nI (hiN (colN (sR S) k) (pn (sQ S) - 1) 1 0), σ) :=
  hi5_m h hr hw hk (pn (sQ S) - 1) 1 N 0 (by omega) (by have := hw.n6; omega) (by omega)
theorem low_m (h : Sh σ) (hr : RM σ S) (hw : WS S) (hN : 10 ≤ N) (h0 : pn (sQ S) ≠ 0) {k : Nat} (hk : k < 4) : fc12_greatest N 60 (nI k) (-1 : Int32) σ = some (nI (loN (colN (sR S) k) (pn (sQ S) - 1) 1 0), σ) :=
  lo5_m h hr hw hk (pn (sQ S) - 1) 1 N 0 (by omega) (by have := hw.n6; omega) (by omega)
theorem or_0 (x : Int32) : x ||| (0 : Int32) = x := Int32.or_zero
theorem all115_m (h : Sh σ) (hr : RM σ S) (hw : WS S) : ∀ (m j fu acc : Nat), j + m = pn (sQ S) → m < fu → acc < 64 → fc12_all_115 N fu (some 60) (nI acc) (nI j) σ = some (nI (btN (fun f => decide (rw_ (sR S) f < rn (sR S) f)) m j acc), σ)
  | _, _, 0, _, _, h0, _ => absurd h0 (Nat.not_lt_zero _)
  | 0, j, fu + 1, acc, hj, _, _ => by
    have h6 := hw.n6
    rw [fc12_all_115, mq h hr.n24, bnd, if_pos (nI_le (by omega) (by omega))]
    rfl
  | m + 1, j, fu + 1, acc, hj, h0, ha => by
    have h6 := hw.n6
    have e1 : (4 : Int32) * nI j + (1 : Int32) = nI (4 * j + 1) := by rw [y4, pk_mul, nI_1]
    have e2 : (4 : Int32) * nI j + (2 : Int32) = nI (4 * j + 2) := by rw [y4, pk_mul, y2, nI_add]
    have hc := col_le (k := 1) hw (by omega) (show j < pn (sQ S) by omega)
    have hc2 := col_le (k := 2) hw (by omega) (show j < pn (sQ S) by omega)
    rw [fc12_all_115, mq h hr.n24, bnd, if_neg (nI_ge (by omega) (by omega)), q28 h, bnd, e1, row71 h hr hw (by omega) (by decide), bnd, bnd, e2, row71 h hr hw (by omega) (by decide), bnd]
    show (if nI (colN (sR S) 1 j) ≤ nI (colN (sR S) 2 j) then _ else _) = _
    have g1 : colN (sR S) 1 j = rn (sR S) j := rfl
    have g2 : colN (sR S) 2 j = rw_ (sR S) j := rfl
    unfold btN
    by_cases c : rw_ (sR S) j < rn (sR S) j
    · rw [if_neg (nI_ge (by omega) (by omega)), fc12_all_154, bit_or acc ha j (by omega), nI_1, if_pos (by simp [c])]
      exact all115_m h hr hw m (j + 1) fu _ (by omega) (by omega) (bit_lt acc ha j (by omega))
    · rw [if_pos (nI_le (by omega) (by omega)), fc12_all_154, or_0, nI_1, if_neg (by simp [c])]
      exact all115_m h hr hw m (j + 1) fu _ (by omega) (by omega) ha
theorem all_m (h : Sh σ) (hr : RM σ S) (hw : WS S) (hN : 10 ≤ N) (x : Int32) : fc12_all N 60 x σ = some (alA (sQ S) (sR S) x, setI σ 60 0 0) := by
  have h0 : Sh (setI σ 60 0 0) := h
  have hr0 := hr.th hw
  have h6 := hw.n6
  unfold alA
  rw [fc12_all, th0 h, bnd, mq h0 hr0.n24, bnd]
  by_cases c0 : pn (sQ S) = 0
  · rw [if_pos ((nI_ze (by omega)).mpr c0), if_pos c0]
  · rw [if_neg (fun w => c0 ((nI_ze (by omega)).mp w)), if_neg c0]
    by_cases x0 : x = 0
    · rw [if_pos x0, if_pos x0, d60 h0, bnd]
      show (fc12_greatest N 60 (nI 3) (-1 : Int32) _).bind _ = _
      rw [low_m h0 hr0 hw hN c0 (by decide), bnd]; rfl
    · rw [if_neg x0, if_neg x0]
      by_cases x1 : x = (1 : Int32)
      · rw [if_pos x1, if_pos x1, d60 h0, bnd]
        show (fc12_greatest N 60 (nI 2) (-1 : Int32) _).bind _ = _
        rw [low_m h0 hr0 hw hN c0 (by decide), bnd]; rfl
      · rw [if_neg x1, if_neg x1]
        by_cases x2 : x = (2 : Int32)
        · rw [if_pos x2, if_pos x2, d60 h0, bnd]
          show (fc12_greatest N 60 (nI 0) (1 : Int32) _).bind _ = _
          rw [grt_m h0 hr0 hw hN c0 (by decide), bnd]; rfl
        · rw [if_neg x2, if_neg x2]
          by_cases x3 : x = (3 : Int32)
          · rw [if_pos x3, if_pos x3, d60 h0, bnd]
            show (fc12_greatest N 60 (nI 1) (1 : Int32) _).bind _ = _
            rw [grt_m h0 hr0 hw hN c0 (by decide), bnd]; rfl
          · rw [if_neg x3, if_neg x3]
            by_cases x4 : x = (4 : Int32)
            · rw [if_pos x4, if_pos x4, d60 h0, bnd]
              show (fc12_sumOf N 60 (nI 0) _).bind _ = _
              rw [sumOf_m h0 hr0 hw hN (by decide), bnd]; rfl
            · rw [if_neg x4, if_neg x4]
              by_cases x5 : x = (5 : Int32)
              · have hl := hiN_lt (colN (sR S) 1) (n := pn (sQ S)) (pn (sQ S) - 1) 1 0 (by omega) (by omega)
                have ei : (4 : Int32) * nI (hiN (colN (sR S) 1) (pn (sQ S) - 1) 1 0) + (1 : Int32) = nI (4 * hiN (colN (sR S) 1) (pn (sQ S) - 1) 1 0 + 1) := by rw [y4, pk_mul, nI_1]
                rw [if_pos x5, if_pos x5, q28 h0, bnd, d60 h0, bnd]
                show (fc12_greatest N 60 (nI 1) (1 : Int32) _).bind _ = _
                rw [grt_m h0 hr0 hw hN c0 (by decide), bnd, ei, row71 h0 hr0 hw hl (by decide), bnd, mq h0 hr0.n24, bnd, pk_mul]
                rfl
              · rw [if_neg x5, if_neg x5]
                by_cases x6 : x = (6 : Int32)
                · rw [if_pos x6, if_pos x6]
                  exact all115_m h0 hr0 hw (pn (sQ S)) 0 N 0 (by omega) (by omega) (by decide)
                · rw [if_neg x6, if_neg x6]
theorem shares_m (h : Sh σ) (hr : RM σ S) (hw : WS S) (hN : 10 ≤ N) {f c : Nat} (hf : f < pn (sQ S)) (hc : c ≤ 999) : fc12_shares N 60 (nI f) (nI c) σ = some (if smN (ro (sR S)) (pn (sQ S)) 0 0 = 0 then 0 else nI (c * ro (sR S) f / smN (ro (sR S)) (pn (sQ S)) 0 0), setI σ 60 0 0) := by
  have h0 : Sh (setI σ 60 0 0) := h
  have hr0 := hr.th hw
  have h6 := hw.n6
  have hs := smN_le (ro (sR S)) (B := 999) (n := pn (sQ S)) (fun k hk => col_le (k := 0) hw (by omega) hk) (pn (sQ S)) 0 0 (by omega)
  have hcf := col_le (k := 0) hw (by omega) hf
  have e0 : colN (sR S) 0 f = ro (sR S) f := rfl
  have sm := sumOf_m (N := N) h0 hr0 hw hN (k := 0) (by decide)
  have sm : fc12_sumOf N 60 (0 : Int32) (setI σ 60 0 0) = some (nI (smN (ro (sR S)) (pn (sQ S)) 0 0), setI σ 60 0 0) := sm
  have ei : (4 : Int32) * nI f + (0 : Int32) = nI (4 * f + 0) := by rw [y4, pk_mul, y0, nI_add]
  rw [fc12_shares, th0 h, bnd, d60 h0, bnd, mfield_y h0 hr0.n24 h6 hf, bnd, if_neg one_z, in0_999_y (Nat.zero_le _) hc, bnd, if_neg one_z, d60 h0, bnd, sm, bnd]
  generalize hse : smN (ro (sR S)) (pn (sQ S)) 0 0 = s at hs
  by_cases c0 : s = 0
  · rw [if_pos ((nI_ze (by omega)).mpr c0), if_pos c0]
  · have hm : c * ro (sR S) f ≤ 999 * 999 := Nat.mul_le_mul hc (by omega)
    rw [if_neg (fun w => c0 ((nI_ze (by omega)).mp w)), if_neg c0, q28 h0, bnd, ei, row71 h0 hr0 hw hf (by decide), bnd]
    show (dvI (nI c * nI (ro (sR S) f)) (nI s)).bind _ = _
    rw [pk_mul, dv_n (by omega) (by omega) (by omega), bnd]
theorem shares_mn (h : Sh σ) (hr : RM σ S) (hw : WS S) {x y : Int32} (hx : ¬ ∃ f c : Nat, f < pn (sQ S) ∧ c ≤ 999 ∧ x = nI f ∧ y = nI c) : fc12_shares N 60 x y σ = some (-1, setI σ 60 0 0) := by
  have h0 : Sh (setI σ 60 0 0) := h
  have hr0 := hr.th hw
  have h6 := hw.n6
  rw [fc12_shares, th0 h, bnd, d60 h0, bnd]
  rcases nix x (n := pn (sQ S)) (by omega) with q | ⟨i, hi, rfl⟩
  · rw [mfield_n h0 hr0.n24 q, bnd, if_pos rfl]
  · rw [mfield_y h0 hr0.n24 h6 hi, bnd, if_neg one_z, in0_999_n (fun ⟨j, _, h1, h2⟩ => hx ⟨i, j, hi, h1, rfl, h2⟩), bnd, if_pos rfl]
theorem buy30_m (h : Sh σ) (hr : RM σ S) (hw : WS S) {n : Nat} (hn : n ≤ 20) : ∀ (m j fu acc : Nat), j + m = pn (sQ S) → m < fu → acc < 64 → fc12_buyers_30 N fu (some 60) (nI n) (nI acc) (nI j) σ = some (nI (btN (fun f => decide (n * rp (sR S) ≤ rc (sR S) f)) m j acc), σ)
  | _, _, 0, _, _, h0, _ => absurd h0 (Nat.not_lt_zero _)
  | 0, j, fu + 1, acc, hj, _, _ => by
    have h6 := hw.n6
    rw [fc12_buyers_30, mq h hr.n24, bnd, if_pos (nI_le (by omega) (by omega))]
    rfl
  | m + 1, j, fu + 1, acc, hj, h0, ha => by
    have h6 := hw.n6
    obtain ⟨b1, b2, b3, -⟩ := hw.hs.yes (show pn (sQ S) ≠ 0 by omega)
    have hp := b3.1
    have hm : n * rp (sR S) ≤ 20 * 30 := Nat.mul_le_mul hn hp
    have e1 : (4 : Int32) * nI j + (3 : Int32) = nI (4 * j + 3) := by rw [y4, pk_mul, y3, nI_add]
    have hc := col_le (k := 3) hw (by omega) (show j < pn (sQ S) by omega)
    have g3 : colN (sR S) 3 j = rc (sR S) j := rfl
    have e24 : mi σ 71 24 = nI (rp (sR S)) := hr.2.2.2.2.1.2.1.1
    have ld : ldI σ (some 71) (24 : Int32) = some (nI (rp (sR S))) := by rw [y24, ldI_lo _ _ _ (by decide), A71 h 24 (by decide), bnd, nI_clamp (by decide), e24]
    rw [fc12_buyers_30, mq h hr.n24, bnd, if_neg (nI_ge (by omega) (by omega)), q28 h, bnd, e1, row71 h hr hw (by omega) (by decide), bnd, bnd, ld, bnd, pk_mul]
    show (if nI (colN (sR S) 3 j) < nI (n * rp (sR S)) then _ else _) = _
    unfold btN
    by_cases c : n * rp (sR S) ≤ rc (sR S) j
    · rw [if_neg (nI_nlt (by omega) (by omega)), fc12_buyers_68, bit_or acc ha j (by omega), nI_1, if_pos (by simp [c])]
      exact buy30_m h hr hw hn m (j + 1) fu _ (by omega) (by omega) (bit_lt acc ha j (by omega))
    · rw [if_pos (nI_lt (by omega) (by omega)), fc12_buyers_68, or_0, nI_1, if_neg (by simp [c])]
      exact buy30_m h hr hw hn m (j + 1) fu _ (by omega) (by omega) ha
theorem buyers_m (h : Sh σ) (hr : RM σ S) (hw : WS S) (hN : 10 ≤ N) (h0' : pn (sQ S) ≠ 0) {n : Nat} (h1 : 1 ≤ n) (hn : n ≤ 20) : fc12_buyers N 60 (nI n) σ = some (nI (btN (fun f => decide (n * rp (sR S) ≤ rc (sR S) f)) (pn (sQ S)) 0 0), setI σ 60 0 0) := by
  have h0 : Sh (setI σ 60 0 0) := h
  have hr0 := hr.th hw
  have h6 := hw.n6
  rw [fc12_buyers, th0 h, bnd, mq h0 hr0.n24, bnd, if_neg (fun w => h0' ((nI_ze (by omega)).mp w)), in1_20_y h1 hn, bnd, if_neg one_z]
  exact buy30_m h0 hr0 hw hn (pn (sQ S)) 0 N 0 (by omega) (by omega) (by decide)
theorem buyers_mn (h : Sh σ) (hr : RM σ S) (hw : WS S) {x : Int32} (hx : ¬ ∃ n : Nat, pn (sQ S) ≠ 0 ∧ 1 ≤ n ∧ n ≤ 20 ∧ x = nI n) : fc12_buyers N 60 x σ = some (-1, setI σ 60 0 0) := by
  have h0 : Sh (setI σ 60 0 0) := h
  have hr0 := hr.th hw
  have h6 := hw.n6
  rw [fc12_buyers, th0 h, bnd, mq h0 hr0.n24, bnd]
  by_cases c0 : pn (sQ S) = 0
  · rw [if_pos ((nI_ze (by omega)).mpr c0)]
  · rw [if_neg (fun w => c0 ((nI_ze (by omega)).mp w)), in1_20_n (fun ⟨j, a1, a2, a3⟩ => hx ⟨j, c0, a1, a2, a3⟩), bnd, if_pos rfl]
theorem count_m (h : Sh σ) (hr : RM σ S) (hw : WS S) (hN : 10 ≤ N) (x : Int32) : fc12_count N 60 x σ = some (cnA S x, setI σ 60 0 0) := by
  have h0 : Sh (setI σ 60 0 0) := h
  have hr0 := hr.th hw
  have e25 : mi (setI σ 60 0 0) 71 25 = nI (rt (sR S)) := hr0.2.2.2.2.1.2.1.2.1
  have e26 : mi (setI σ 60 0 0) 71 26 = nI (min 60 (rt (sR S))) := hr0.2.2.2.2.1.2.2.1.1
  unfold cnA
  rw [fc12_count, th0 h, bnd]
  by_cases x0 : x = 0
  · rw [if_pos x0, if_pos x0, mq h0 hr0.n24, bnd]
  · rw [if_neg x0, if_neg x0]
    by_cases x1 : x = (1 : Int32)
    · rw [if_pos x1, if_pos x1, mq h0 hr0.2.1.1, bnd]
    · rw [if_neg x1, if_neg x1]
      by_cases x2 : x = (2 : Int32)
      · rw [if_pos x2, if_pos x2, mq h0 hr0.2.2.1.1, bnd]
      · rw [if_neg x2, if_neg x2]
        by_cases x3 : x = (3 : Int32)
        · rw [if_pos x3, if_pos x3, mq h0 hr0.1.1, bnd]
        · rw [if_neg x3, if_neg x3]
          by_cases x4 : x = (4 : Int32)
          · rw [if_pos x4, if_pos x4, mq h0 hr0.2.1.2.1, bnd]
          · rw [if_neg x4, if_neg x4]
            by_cases x5 : x = (5 : Int32)
            · rw [if_pos x5, if_pos x5, q28 h0, bnd, y25, ldI_lo _ _ _ (by decide), A71 h0 25 (by decide), bnd, nI_clamp (by decide), e25, bnd]
            · rw [if_neg x5, if_neg x5]
              by_cases x6 : x = (6 : Int32)
              · rw [if_pos x6, if_pos x6, d60 h0, bnd]
                show (fc12_sumOf N 60 (nI 3) _).bind _ = _
                rw [sumOf_m h0 hr0 hw hN (by decide), bnd]; rfl
              · rw [if_neg x6, if_neg x6]
                by_cases x7 : x = (7 : Int32)
                · rw [if_pos x7, if_pos x7, mq h0 hr0.2.2.2.1, bnd]
                · rw [if_neg x7, if_neg x7]
                  by_cases x8 : x = (8 : Int32)
                  · rw [if_pos x8, if_pos x8, mq h0 hr0.2.2.2.2.2.1, bnd]
                  · rw [if_neg x8, if_neg x8]
                    by_cases x9 : x = (9 : Int32)
                    · rw [if_pos x9, if_pos x9, q28 h0, bnd, y26, ldI_lo _ _ _ (by decide), A71 h0 26 (by decide), bnd, nI_clamp (by decide), e26, bnd]
                    · rw [if_neg x9, if_neg x9]
                      by_cases x10 : x = (10 : Int32)
                      · rw [if_pos x10, if_pos x10, mq h0 hr0.2.2.2.2.1.2.2.2.1.1, bnd]
                      · rw [if_neg x10, if_neg x10]
end SM
