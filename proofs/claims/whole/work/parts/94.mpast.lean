/-! undone, pictured, the log, a plan's steps, in the reference -/
section MQ
variable {N : Nat} {σ : Me}
theorem sh71 {σ' : Me} (h : Sh σ) (k : Fr (fun a _ => a == 71) σ σ') : Sh σ' := k.sh (by
  have h : ∀ q ∈ rfL, (fun a _ : Nat => a == 71) q.1.1 q.1.2 = false := by decide +kernel
  exact h) h
theorem sh83 {σ' : Me} (h : Sh σ) (k : Fr (fun a _ => a == 83) σ σ') : Sh σ' := k.sh (by
  have h : ∀ q ∈ rfL, (fun a _ : Nat => a == 83) q.1.1 q.1.2 = false := by decide +kernel
  exact h) h
theorem undo26 (h : Sh σ) {c : Nat} (hc : mi σ 60 39 = nI c) (h40 : c < 40) (hN : 300 ≤ N) : ∃ σ' : Me, fc12_undo_26 N N (some 60) (nI 0) σ = some (nI c, σ') ∧ Fr (fun a _ => a == 71) σ σ' ∧ (∀ j, j < 207 → mi σ' 71 j = mi σ 77 (207 * c + j)) := by
  refine lp (fun fu k τ => fc12_undo_26 N fu (some 60) (nI k) τ) (fun k τ => Fr (fun a _ => a == 71) σ τ ∧ (∀ j, j < k → mi τ 71 j = mi σ 77 (207 * c + j))) (fun o => ∃ σ' : Me, o = some (nI c, σ') ∧ Fr (fun a _ => a == 71) σ σ' ∧ (∀ j, j < 207 → mi σ' 71 j = mi σ 77 (207 * c + j))) 207 ?_ ?_ 207 0 N σ (by omega) (by omega) ⟨Fr.rf _ _, fun j hj => by omega⟩
  · rintro fu τ ⟨i1, i2⟩
    have hτ := sh71 h i1
    have e39 : mi τ 60 39 = nI c := by rw [i1.i rfl]; exact hc
    refine ⟨τ, ?_, i1, i2⟩
    have c1 : (207 : Nat) ≤ 207 := by decide
    simp (disch := omega) only [fc12_undo_26, y207, nI_leI, c1, if_true, if_false, ↓reduceIte, and_true, true_and, and_false, false_and, not_true_eq_false, not_false_eq_true, and_self, qI, PN hτ, bnd, e39]
  · rintro fu k τ hk ⟨i1, i2⟩
    have hτ := sh71 h i1
    have e39 : mi τ 60 39 = nI c := by rw [i1.i rfl]; exact hc
    have e77 : mi τ 77 (207 * c + k) = mi σ 77 (207 * c + k) := i1.i rfl
    refine .inl ⟨setI τ 71 k (mi σ 77 (207 * c + k)), ?_, fr_I rfl i1, fun j hj => ?_⟩
    · have c1 : ¬ 207 ≤ k := by omega
      simp (disch := omega) only [fc12_undo_26, y207, nI_leI, c1, if_true, if_false, ↓reduceIte, and_true, true_and, and_false, false_and, not_true_eq_false, not_false_eq_true, and_self, qI, qR, PN hτ, bnd, e39, ldI_lo, stI, A71 hτ, A77 hτ, nI_clamp, nI_add, pk_mul, e77, nI_1]
    · by_cases e : j = k
      · subst e; rw [mi_eq]
      · rw [mi_ne _ _ (by omega)]; exact i2 j (by omega)
theorem h71_h {a j : Nat} (h : mhX a j = false) : (a == 71) = false := by
  simp only [mhX, mX, Bool.or_eq_false_iff, Bool.and_eq_false_iff, decide_eq_false_iff_not, beq_eq_false_iff_ne] at h ⊢
  omega
theorem h83_h {a j : Nat} (h : mhX a j = false) : (a == 83) = false := by
  simp only [mhX, mX, Bool.or_eq_false_iff, Bool.and_eq_false_iff, decide_eq_false_iff_not, beq_eq_false_iff_ne] at h ⊢
  omega
theorem undo_m {S : Sy} (h : Sh σ) (hr : RM σ S) (hw : WS S) (hN : 9000 ≤ N) {a : Rw} {as : List Rw} (ha : sA S = a :: as) : ∃ σ' : Me, fc12_undo N 60 σ = some (nI as.length, σ') ∧ Sh σ' ∧ Fr mhX σ σ' ∧ RM σ' (withH S a (sG S) as (sI S)) := by
  have h0 : pn (sQ S) ≠ 0 := by
    rcases hw.hs with e | e
    · rw [ha] at e; exact absurd e.2.2.1 (by simp)
    · omega
  obtain ⟨a1, a2, a3, a4, a5, a6, a7, a8⟩ := hw.hs.yes h0
  have b6 := a2.1
  have ht : Sh (setI σ 60 0 0) := h
  have hr1 := hr.th hw
  obtain ⟨h5, h6, h7, h8, h9⟩ := hr1.2.2.2.2.1
  rw [ha] at h8 a6
  rw [List.length_cons] at a6
  have e39 := h8.1
  rw [List.length_cons] at e39
  have f1 : Fr (fun a j => a == 60 && j == 39) (setI σ 60 0 0) (setI (setI σ 60 0 0) 60 39 (nI as.length)) := fr_I rfl (Fr.rf _ _)
  have s1 : Sh (setI (setI σ 60 0 0) 60 39 (nI as.length)) := ht
  obtain ⟨σ2, u1, u2, u3⟩ := undo26 (N := N) s1 (c := as.length) (mi_eq _ _ _ _) (by omega) (by omega)
  have fr1 : Fr mhX (setI σ 60 0 0) σ2 := (f1.mono (fun x j e => by
    simp only [mhX, mX, Bool.or_eq_false_iff, Bool.and_eq_false_iff, decide_eq_false_iff_not, beq_eq_false_iff_ne] at e ⊢
    omega)).tr (u2.mono (fun x j e => h71_h e))
  obtain ⟨p1, p2⟩ := h8.2 0 a rfl
  rw [List.length_cons, show as.length + 1 - 1 - 0 = as.length by omega] at p1 p2
  have hc : ∀ j, j < 207 → mi σ2 71 j = mi (setI σ 60 0 0) 77 (207 * as.length + j) := fun j hj => by rw [u3 j hj, mi_ne _ _ (by omega)]
  refine ⟨σ2, ?_, fr1.sh mhX_f ht, th0_fr.mh.tr fr1, hr1.hs fr1 hw ?_ ⟨?_, p1.toM b6 hc, p2.toM hc, ⟨?_, fun i x e => ?_⟩, ?_⟩⟩
  · have c0 : ¬ nI (as.length + 1) = 0 := nI_ne0 (by omega) (by omega)
    have c1 := pk_sub (a := as.length + 1) (b := 1) (by omega)
    rw [show as.length + 1 - 1 = as.length by omega, ← y1] at c1
    rw [fc12_undo, th0 h, bnd]
    simp (disch := omega) only [qI, pI, PN ht, bnd, e39, c0, c1, if_true, if_false, ↓reduceIte, and_true, true_and, and_false, false_and, not_true_eq_false, not_false_eq_true, and_self]
    exact u1
  · exact (hr1.2.1.2.2.2.fr f1 (fun _ => ⟨rfl, rfl⟩)).fr u2 (fun _ => ⟨rfl, rfl⟩)
  · exact (h5.fr f1 rfl (fun _ => ⟨rfl, rfl⟩)).fr u2 rfl (fun _ => ⟨rfl, rfl⟩)
  · rw [u2.i rfl]; exact mi_eq _ _ _ _
  · have q := h8.2 (i + 1) x e
    rw [List.length_cons, show as.length + 1 - 1 - (i + 1) = as.length - 1 - i by omega] at q
    exact ⟨(q.1.fr f1 (fun _ => rfl)).fr u2 (fun _ => rfl), (q.2.fr f1 (fun _ => rfl)).fr u2 (fun _ => rfl)⟩
  · exact (h9.fr f1 rfl (fun _ => rfl)).fr u2 rfl (fun _ => rfl)
theorem undo_mn {S : Sy} (h : Sh σ) (hr : RM σ S) (hw : WS S) (ha : sA S = []) : fc12_undo N 60 σ = some (-1, setI σ 60 0 0) := by
  have ht : Sh (setI σ 60 0 0) := h
  have e39 := (hr.th hw).2.2.2.2.1.2.2.2.1.1
  rw [ha, List.length_nil] at e39
  rw [fc12_undo, th0 h, bnd]
  simp (disch := omega) only [qI, PN ht, bnd, e39, nI_0, if_true, if_false, ↓reduceIte, and_true, true_and, and_false, false_and, not_true_eq_false, not_false_eq_true, and_self]
theorem pz48 (h : Sh σ) : pZ σ 12 48 (some 60) 1 = some (setI σ 60 48 (nI 1)) := by
  unfold pZ
  rw [if_pos (.inr rfl), h.dr 60 (by decide) (k := .inl 12) rfl, bnd]
  rfl
theorem image16 (h : Sh σ) (hN : 300 ≤ N) : ∃ σ' : Me, fc12_image_16 N N (some 60) (nI 0) σ = some (mi σ 71 25, setI σ' 60 48 (nI 1)) ∧ Fr (fun a _ => a == 83) σ σ' ∧ (∀ j, j < 207 → mi σ' 83 j = mi σ 71 j) := by
  refine lp (fun fu k τ => fc12_image_16 N fu (some 60) (nI k) τ) (fun k τ => Fr (fun a _ => a == 83) σ τ ∧ (∀ j, j < k → mi τ 83 j = mi σ 71 j)) (fun o => ∃ σ' : Me, o = some (mi σ 71 25, setI σ' 60 48 (nI 1)) ∧ Fr (fun a _ => a == 83) σ σ' ∧ (∀ j, j < 207 → mi σ' 83 j = mi σ 71 j)) 207 ?_ ?_ 207 0 N σ (by omega) (by omega) ⟨Fr.rf _ _, fun j hj => by omega⟩
  · rintro fu τ ⟨i1, i2⟩
    have hτ := sh83 h i1
    have h2 : Sh (setI τ 60 48 (nI 1)) := hτ
    have e25 : mi (setI τ 60 48 (nI 1)) 71 25 = mi σ 71 25 := by rw [mi_ne _ _ (by omega)]; exact i1.i rfl
    refine ⟨τ, ?_, i1, i2⟩
    have c1 : (207 : Nat) ≤ 207 := by decide
    simp (disch := omega) only [fc12_image_16, y207, nI_leI, c1, if_true, if_false, ↓reduceIte, and_true, true_and, and_false, false_and, not_true_eq_false, not_false_eq_true, and_self, pz48 hτ, qR, PN h2, bnd, y25, ldI_lo, A71 h2, nI_clamp, e25]
  · rintro fu k τ hk ⟨i1, i2⟩
    have hτ := sh83 h i1
    have e71 : mi τ 71 k = mi σ 71 k := i1.i rfl
    refine .inl ⟨setI τ 83 k (mi σ 71 k), ?_, fr_I rfl i1, fun j hj => ?_⟩
    · have c1 : ¬ 207 ≤ k := by omega
      simp (disch := omega) only [fc12_image_16, y207, nI_leI, c1, if_true, if_false, ↓reduceIte, and_true, true_and, and_false, false_and, not_true_eq_false, not_false_eq_true, and_self, qR, PN hτ, bnd, ldI_lo, stI, A71 hτ, A83 hτ, nI_clamp, e71, nI_1]
    · by_cases e : j = k
      · subst e; rw [mi_eq]
      · rw [mi_ne _ _ (by omega)]; exact i2 j (by omega)
theorem image_m {S : Sy} (h : Sh σ) (hr : RM σ S) (hw : WS S) (hN : 9000 ≤ N) (h0 : pn (sQ S) ≠ 0) : ∃ σ' : Me, fc12_image N 60 σ = some (nI (rt (sR S)), σ') ∧ Sh σ' ∧ Fr mhX σ σ' ∧ RM σ' (withH S (sR S) (sG S) (sA S) (some (sR S, sG S))) := by
  have b6 := hw.n6
  have ht : Sh (setI σ 60 0 0) := h
  have hr1 := hr.th hw
  obtain ⟨h5, h6, h7, h8, h9⟩ := hr1.2.2.2.2.1
  obtain ⟨σ1, u1, u2, u3⟩ := image16 (N := N) ht (by omega)
  have f2 : Fr (fun a j => a == 60 && j == 48) σ1 (setI σ1 60 48 (nI 1)) := fr_I rfl (Fr.rf _ _)
  have fr1 : Fr mhX (setI σ 60 0 0) (setI σ1 60 48 (nI 1)) := (u2.mono (fun x j e => h83_h e)).tr (f2.mono (fun x j e => by
    simp only [mhX, mX, Bool.or_eq_false_iff, Bool.and_eq_false_iff, decide_eq_false_iff_not, beq_eq_false_iff_ne] at e ⊢
    omega))
  have hc : ∀ j, j < 207 → mi (setI σ1 60 48 (nI 1)) 83 (0 + j) = mi (setI σ 60 0 0) 71 j := fun j hj => by rw [Nat.zero_add, mi_ne _ _ (by omega)]; exact u3 j hj
  refine ⟨_, ?_, fr1.sh mhX_f ht, th0_fr.mh.tr fr1, hr1.hs fr1 hw ((hr1.2.1.2.2.2.fr u2 (fun _ => ⟨rfl, rfl⟩)).fr f2 (fun _ => ⟨rfl, rfl⟩)) ⟨(h5.fr u2 rfl (fun _ => ⟨rfl, rfl⟩)).fr f2 rfl (fun _ => ⟨rfl, rfl⟩), (h6.fr u2 (fun _ => rfl)).fr f2 (fun _ => rfl), (h7.fr u2 (fun _ _ => rfl)).fr f2 (fun _ _ => rfl), (h8.fr u2 rfl (fun _ => rfl)).fr f2 rfl (fun _ => rfl), mi_eq _ _ _ _, h6.toA b6 hc, h7.toA hc⟩⟩
  have c0 : ¬ nI (pn (sQ S)) = 0 := nI_ne0 (by omega) (by omega)
  have e25 := h6.2.1
  rw [e25] at u1
  rw [fc12_image, th0 h, bnd]
  simp (disch := omega) only [qI, PN ht, bnd, h5.1, c0, if_true, if_false, ↓reduceIte, and_true, true_and, and_false, false_and, not_true_eq_false, not_false_eq_true, and_self]
  exact u1
theorem image_mn {S : Sy} (h : Sh σ) (hr : RM σ S) (hw : WS S) (h0 : pn (sQ S) = 0) : fc12_image N 60 σ = some (-1, setI σ 60 0 0) := by
  have ht : Sh (setI σ 60 0 0) := h
  have e24 := (hr.th hw).2.2.2.2.1.1.1
  rw [h0] at e24
  rw [fc12_image, th0 h, bnd]
  simp (disch := omega) only [qI, PN ht, bnd, e24, nI_0, if_true, if_false, ↓reduceIte, and_true, true_and, and_false, false_and, not_true_eq_false, not_false_eq_true, and_self]
theorem back16 (h : Sh σ) (hN : 300 ≤ N) : ∃ σ' : Me, fc12_back_16 N N (some 60) (nI 0) σ = some (mi σ 83 25, setI σ' 60 39 (nI 0)) ∧ Fr (fun a _ => a == 71) σ σ' ∧ (∀ j, j < 207 → mi σ' 71 j = mi σ 83 j) := by
  refine lp (fun fu k τ => fc12_back_16 N fu (some 60) (nI k) τ) (fun k τ => Fr (fun a _ => a == 71) σ τ ∧ (∀ j, j < k → mi τ 71 j = mi σ 83 j)) (fun o => ∃ σ' : Me, o = some (mi σ 83 25, setI σ' 60 39 (nI 0)) ∧ Fr (fun a _ => a == 71) σ σ' ∧ (∀ j, j < 207 → mi σ' 71 j = mi σ 83 j)) 207 ?_ ?_ 207 0 N σ (by omega) (by omega) ⟨Fr.rf _ _, fun j hj => by omega⟩
  · rintro fu τ ⟨i1, i2⟩
    have hτ := sh71 h i1
    have h2 : Sh (setI τ 60 39 (nI 0)) := hτ
    have e25 : mi (setI τ 60 39 (nI 0)) 71 25 = mi σ 83 25 := by rw [mi_ne _ _ (by omega)]; exact i2 25 (by omega)
    refine ⟨τ, ?_, i1, i2⟩
    have c1 : (207 : Nat) ≤ 207 := by decide
    have p39 : pI τ 12 39 (some 60) 0 = some (setI τ 60 39 (nI 0)) := by simp only [pI, PN hτ, bnd]; rfl
    simp (disch := omega) only [fc12_back_16, y207, nI_leI, c1, if_true, if_false, ↓reduceIte, and_true, true_and, and_false, false_and, not_true_eq_false, not_false_eq_true, and_self, p39, qR, PN h2, bnd, y25, ldI_lo, A71 h2, nI_clamp, e25]
  · rintro fu k τ hk ⟨i1, i2⟩
    have hτ := sh71 h i1
    have e83 : mi τ 83 k = mi σ 83 k := i1.i rfl
    refine .inl ⟨setI τ 71 k (mi σ 83 k), ?_, fr_I rfl i1, fun j hj => ?_⟩
    · have c1 : ¬ 207 ≤ k := by omega
      simp (disch := omega) only [fc12_back_16, y207, nI_leI, c1, if_true, if_false, ↓reduceIte, and_true, true_and, and_false, false_and, not_true_eq_false, not_false_eq_true, and_self, qR, PN hτ, bnd, ldI_lo, stI, A71 hτ, A83 hτ, nI_clamp, e83, nI_1]
    · by_cases e : j = k
      · subst e; rw [mi_eq]
      · rw [mi_ne _ _ (by omega)]; exact i2 j (by omega)
theorem back_m {S : Sy} (h : Sh σ) (hr : RM σ S) (hw : WS S) (hN : 9000 ≤ N) {p : Rw × Lg} (hp : sI S = some p) : ∃ σ' : Me, fc12_back N 60 σ = some (nI (rt p.1), σ') ∧ Sh σ' ∧ Fr mhX σ σ' ∧ RM σ' (withH S p.1 p.2 [] (some p)) := by
  have b6 := hw.n6
  have ht : Sh (setI σ 60 0 0) := h
  have hr1 := hr.th hw
  obtain ⟨h5, h6, h7, h8, h9⟩ := hr1.2.2.2.2.1
  rw [hp] at h9
  obtain ⟨σ1, u1, u2, u3⟩ := back16 (N := N) ht (by omega)
  have f2 : Fr (fun a j => a == 60 && j == 39) σ1 (setI σ1 60 39 (nI 0)) := fr_I rfl (Fr.rf _ _)
  have fr1 : Fr mhX (setI σ 60 0 0) (setI σ1 60 39 (nI 0)) := (u2.mono (fun x j e => h71_h e)).tr (f2.mono (fun x j e => by
    simp only [mhX, mX, Bool.or_eq_false_iff, Bool.and_eq_false_iff, decide_eq_false_iff_not, beq_eq_false_iff_ne] at e ⊢
    omega))
  have hc : ∀ j, j < 207 → mi (setI σ1 60 39 (nI 0)) 71 j = mi (setI σ 60 0 0) 83 (0 + j) := fun j hj => by rw [Nat.zero_add, mi_ne _ _ (by omega)]; exact u3 j hj
  have h9f : ImM (setI σ1 60 39 (nI 0)) (pn (sQ S)) (some p) := (h9.fr u2 rfl (fun _ => rfl)).fr f2 rfl (fun _ => rfl)
  obtain ⟨i1, i2, i3⟩ := h9
  refine ⟨_, ?_, fr1.sh mhX_f ht, th0_fr.mh.tr fr1, hr1.hs fr1 hw ((hr1.2.1.2.2.2.fr u2 (fun _ => ⟨rfl, rfl⟩)).fr f2 (fun _ => ⟨rfl, rfl⟩)) ⟨(h5.fr u2 rfl (fun _ => ⟨rfl, rfl⟩)).fr f2 rfl (fun _ => ⟨rfl, rfl⟩), i2.toM b6 hc, i3.toM hc, ⟨mi_eq _ _ _ _, fun i x e => by cases e⟩, h9f⟩⟩
  have c0 : ¬ nI 1 = 0 := by decide
  have e25 : mi (setI σ 60 0 0) 83 25 = nI (rt p.1) := i2.2.1
  rw [e25] at u1
  rw [fc12_back, th0 h, bnd]
  simp (disch := omega) only [qI, PN ht, bnd, i1, c0, if_true, if_false, ↓reduceIte, and_true, true_and, and_false, false_and, not_true_eq_false, not_false_eq_true, and_self]
  exact u1
theorem back_mn {S : Sy} (h : Sh σ) (hr : RM σ S) (hw : WS S) (hp : sI S = none) : fc12_back N 60 σ = some (-1, setI σ 60 0 0) := by
  have ht : Sh (setI σ 60 0 0) := h
  have h9 := (hr.th hw).2.2.2.2.1.2.2.2.2
  rw [hp] at h9
  have h9 : mi (setI σ 60 0 0) 60 48 = nI 0 := h9
  rw [fc12_back, th0 h, bnd]
  simp (disch := omega) only [qI, PN ht, bnd, h9, nI_0, if_true, if_false, ↓reduceIte, and_true, true_and, and_false, false_and, not_true_eq_false, not_false_eq_true, and_self]
theorem log_m {S : Sy} (h : Sh σ) (hr : RM σ S) (hw : WS S) {i w : Nat} (hi : i < min 60 (rt (sR S))) (hw2 : w ≤ 2) : fc12_log N 60 (nI i) (nI w) σ = some (nI (if w = 0 then (sG S (rt (sR S) - 1 - i)).1 else if w = 1 then (sG S (rt (sR S) - 1 - i)).2.1 else (sG S (rt (sR S) - 1 - i)).2.2), setI σ 60 0 0) := by
  have ht : Sh (setI σ 60 0 0) := h
  obtain ⟨e26, hl⟩ := (hr.th hw).2.2.2.2.1.2.2.1
  generalize hc : min 60 (rt (sR S)) = c at *
  have hc60 : c ≤ 60 := by omega
  have hj := hl (c - 1 - i) (by omega)
  rw [show rt (sR S) - c + (c - 1 - i) = rt (sR S) - 1 - i by omega] at hj
  obtain ⟨g1, g2, g3⟩ := hj
  have cc : ¬ (1 : Int32) = 0 := by decide
  have s1 := pk_sub (a := c) (b := 1) (by omega)
  have s2 := pk_sub (a := c - 1) (b := i) (by omega)
  have l26 : ldI (setI σ 60 0 0) (some 71) 26 = some (nI c) := by simp (disch := omega) only [y26, ldI_lo, A71 ht, bnd, nI_clamp, e26]
  have r28 : qR (setI σ 60 0 0) 12 28 (some 60) = some (some 71) := by simp only [qR, PN ht, bnd]
  have ix : ((27 : Int32) + ((3 : Int32) * ((nI c - (1 : Int32)) - nI i))) + nI w = nI (27 + 3 * (c - 1 - i) + w) := by rw [y1, s1, s2, y27, y3, pk_mul, nI_add, nI_add]
  have lx : ldI (setI σ 60 0 0) (some 71) (nI (27 + 3 * (c - 1 - i) + w)) = some (mi (setI σ 60 0 0) 71 (27 + 3 * (c - 1 - i) + w)) := by simp (disch := omega) only [ldI_lo, A71 ht, bnd, nI_clamp]
  rw [fc12_log, th0 h, bnd, r28, bnd, l26, bnd, inL_y hi (by omega), bnd, if_neg cc, in0_2_y (Nat.zero_le w) hw2, bnd, if_neg cc]
  simp only [r28, bnd, l26, ix, lx]
  have : w = 0 ∨ w = 1 ∨ w = 2 := by omega
  rcases this with rfl | rfl | rfl
  · rw [Nat.add_zero, g1]; rfl
  · rw [g2]; rfl
  · rw [g3]; rfl
theorem log_mn {S : Sy} (h : Sh σ) (hr : RM σ S) (hw : WS S) {x y : Int32} (hx : ¬ ∃ i w : Nat, i < min 60 (rt (sR S)) ∧ w ≤ 2 ∧ x = nI i ∧ y = nI w) : fc12_log N 60 x y σ = some (-1, setI σ 60 0 0) := by
  have ht : Sh (setI σ 60 0 0) := h
  obtain ⟨e26, hl⟩ := (hr.th hw).2.2.2.2.1.2.2.1
  generalize hc : min 60 (rt (sR S)) = c at *
  have cc : ¬ (1 : Int32) = 0 := by decide
  have l26 : ldI (setI σ 60 0 0) (some 71) 26 = some (nI c) := by simp (disch := omega) only [y26, ldI_lo, A71 ht, bnd, nI_clamp, e26]
  have r28 : qR (setI σ 60 0 0) 12 28 (some 60) = some (some 71) := by simp only [qR, PN ht, bnd]
  rw [fc12_log, th0 h, bnd, r28, bnd, l26, bnd]
  by_cases c1 : ∃ j : Nat, j < c ∧ x = nI j
  · obtain ⟨i, hi, rfl⟩ := c1
    rw [inL_y hi (by omega), bnd, if_neg cc, in0_2_n (fun ⟨j, _, h1, h2⟩ => hx ⟨i, j, hi, h1, rfl, h2⟩), bnd, if_pos rfl]
  · rw [inL_n (by omega) c1, bnd, if_pos rfl]
theorem isPlan_y (h : Sh σ) {ps : List PnE} (hp : PnM σ ps) (h4 : ps.length ≤ 4) {k : Nat} (hk : k < ps.length) : fc12_isPlan N 60 (nI k) σ = some (1, σ) := by
  have c0 := nI_pos (n := k) (by omega)
  have c1 : ¬ ps.length ≤ k := by omega
  simp (disch := omega) only [fc12_isPlan, c0, if_true, if_false, ↓reduceIte, and_true, true_and, and_false, false_and, not_true_eq_false, not_false_eq_true, and_self, qI, PN h, bnd, hp.1, nI_leI, c1, retZ1]
theorem isPlan_n (h : Sh σ) {ps : List PnE} (hp : PnM σ ps) {x : Int32} (hx : x < 0 ∨ nI ps.length ≤ x) : fc12_isPlan N 60 x σ = some (0, σ) := by
  by_cases c0 : x < 0
  · simp (disch := omega) only [fc12_isPlan, c0, if_true, if_false, ↓reduceIte, and_true, true_and, and_false, false_and, not_true_eq_false, not_false_eq_true, and_self, retZ0]
  · simp (disch := omega) only [fc12_isPlan, c0, if_true, if_false, ↓reduceIte, and_true, true_and, and_false, false_and, not_true_eq_false, not_false_eq_true, and_self, qI, PN h, bnd, hp.1, hx.resolve_left c0, retZ0]
/-- a plan's cells at a step, in the reference -/
theorem pm_step (h : Sh σ) {ps : List PnE} (hp : PnM σ ps) (h4 : ps.length ≤ 4) {k i : Nat} {e : PnE} (he : ps[k]? = some e) (hok : plOK e.2) (hi : i < e.2.1) : k < ps.length ∧ qR σ 12 22 (some 60) = some (some 69) ∧ qR σ 12 23 (some 60) = some (some 70) ∧ ldI σ (some 70) (nI k) = some (nI e.2.1) ∧ (3 : Int32) * (((16 : Int32) * nI k) + nI i) = nI (3 * (16 * k + i)) ∧ ldI σ (some 69) (nI (3 * (16 * k + i))) = some (nI (e.2.2 i).1) ∧ ldI σ (some 69) (nI (3 * (16 * k + i)) + (1 : Int32)) = some (nI (e.2.2 i).2.1) ∧ ldI σ (some 69) (nI (3 * (16 * k + i)) + (2 : Int32)) = some (e.2.2 i).2.2 := by
  have hk : k < ps.length := by
    rcases Nat.lt_or_ge k ps.length with q | q
    · exact q
    · rw [List.getElem?_eq_none q] at he; cases he
  obtain ⟨g1, g2⟩ := hp.2 k e he
  obtain ⟨s1, s2, s3⟩ := g2 i hi
  have h16 := hok.2.1
  refine ⟨hk, by simp only [qR, PN h, bnd], by simp only [qR, PN h, bnd], ?_, ?_, ?_, ?_, ?_⟩
  · simp (disch := omega) only [ldI_lo, A70 h, bnd, nI_clamp, g1]
  · rw [y3, y16, pk_mul, nI_add, pk_mul]
  · simp (disch := omega) only [ldI_lo, A69 h, bnd, nI_clamp, s1]
  · simp (disch := omega) only [nI_1, ldI_lo, A69 h, bnd, nI_clamp, s2]
  · simp (disch := omega) only [ip2, ldI_lo, A69 h, bnd, nI_clamp, s3]
theorem step_m {S : Sy} (h : Sh σ) (hr : RM σ S) (hw : WS S) {k i w : Nat} {e : PnE} (he : (sP S)[k]? = some e) (hi : i < e.2.1) (hw2 : w ≤ 2) : fc12_step N 60 (nI k) (nI i) (nI w) σ = some (if w = 0 then nI (e.2.2 i).1 else if w = 1 then nI (e.2.2 i).2.1 else (e.2.2 i).2.2, setI σ 60 0 0) := by
  have ht : Sh (setI σ 60 0 0) := h
  have hp := (hr.th hw).2.2.1
  have h4 := hw.2.2.2.2.1
  have hok := hw.2.2.2.2.2.1 k e he
  have h16 := hok.2.1
  obtain ⟨hk, g0, g1, g2, g3, l1, l2, l3⟩ := pm_step ht hp h4 he hok hi
  have cc : ¬ (1 : Int32) = 0 := by decide
  have d60 : dr (setI σ 60 0 0) (some 60) (.inl 12) = some 60 := by simp only [PN ht]
  rw [fc12_step, th0 h, bnd, d60, bnd, isPlan_y ht hp h4 hk, bnd, if_neg cc]
  simp only [g1, bnd, g2]
  rw [inL_y hi (by omega), bnd, if_neg cc, in0_2_y (Nat.zero_le w) hw2, bnd, if_neg cc]
  simp only [g0, bnd, g3]
  have : w = 0 ∨ w = 1 ∨ w = 2 := by omega
  rcases this with rfl | rfl | rfl
  · have e0 : nI (3 * (16 * k + i)) + nI 0 = nI (3 * (16 * k + i)) := by rw [nI_0, ip0]
    rw [e0, l1]; rfl
  · rw [show nI 1 = (1 : Int32) from rfl, l2]; rfl
  · rw [show nI 2 = (2 : Int32) from rfl, l3]; rfl
theorem step_mn {S : Sy} (h : Sh σ) (hr : RM σ S) (hw : WS S) {x y z : Int32} (hx : ¬ ∃ (k i w : Nat) (e : PnE), (sP S)[k]? = some e ∧ i < e.2.1 ∧ w ≤ 2 ∧ x = nI k ∧ y = nI i ∧ z = nI w) : fc12_step N 60 x y z σ = some (-1000000, setI σ 60 0 0) := by
  have ht : Sh (setI σ 60 0 0) := h
  have hp := (hr.th hw).2.2.1
  have h4 := hw.2.2.2.2.1
  have cc : ¬ (1 : Int32) = 0 := by decide
  have d60 : dr (setI σ 60 0 0) (some 60) (.inl 12) = some 60 := by simp only [PN ht]
  rw [fc12_step, th0 h, bnd, d60, bnd]
  rcases nix x (n := (sP S).length) (by omega) with q | ⟨k, hk, rfl⟩
  · rw [isPlan_n ht hp q, bnd, if_pos rfl]; rfl
  · have he := List.getElem?_eq_getElem hk
    generalize (sP S)[k] = e at he
    have hok := hw.2.2.2.2.2.1 k e he
    have h16 := hok.2.1
    have h1 := hok.1
    obtain ⟨-, g0, g1, g2, -⟩ := pm_step ht hp h4 he hok (show 0 < e.2.1 by omega)
    rw [isPlan_y ht hp h4 hk, bnd, if_neg cc]
    simp only [g1, bnd, g2]
    by_cases c1 : ∃ j : Nat, j < e.2.1 ∧ y = nI j
    · obtain ⟨i, hi, rfl⟩ := c1
      rw [inL_y hi (by omega), bnd, if_neg cc, in0_2_n (fun ⟨j, _, h1, h2⟩ => hx ⟨k, i, j, e, he, hi, h1, rfl, rfl, h2⟩), bnd, if_pos rfl]; rfl
    · rw [inL_n (by omega) c1, bnd, if_pos rfl]; rfl
end MQ
