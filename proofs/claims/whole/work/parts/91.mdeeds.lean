/-! acts by hand, in the reference -/
def mhX : Nat → Nat → Bool := fun a j => mX a j || a == 71 || a == 77 || (a == 60 && (j == 39 || j == 48)) || a == 83
theorem mhX_f : Sf mhX := by
  have h : ∀ q ∈ rfL, mhX q.1.1 q.1.2 = false := by decide +kernel
  exact h
theorem mX_h {a j : Nat} (h : mhX a j = false) : mX a j = false := by
  simp only [mhX, Bool.or_eq_false_iff] at h; exact h.1.1.1.1
theorem Fr.mh {σ σ' : Me} (h : Fr mX σ σ') : Fr mhX σ σ' := h.mono (fun _ _ e => mX_h e)
theorem RM.hs {σ σ' : Me} {S : Sy} {r : Rw} {lg : Lg} {acts : List Rw} {img : Im} (h : RM σ S) (k : Fr mhX σ σ') (hw : WS S) (hm : MemoM σ' (sL S)) (hs : HsM σ' (sQ S) r lg acts img) : RM σ' (withH S r lg acts img) := by
  obtain ⟨h1, h2, h3, h4, -, h10⟩ := h
  refine ⟨h1.fr k rfl (fun _ => rfl), h2.fr k rfl rfl (fun _ => ⟨rfl, rfl⟩) hm, h3.fr k hw.2.2.2.2.1 (fun i q e => (hw.2.2.2.2.2.1 i q e).2.1) rfl (fun j hj => by simp [mhX, mX]; omega) (fun j hj => by simp [mhX, mX]; omega), ?_, hs, ?_⟩
  · show mi σ' 60 31 = _
    rw [k.i rfl]; exact h4
  · exact h10.fr k rfl (fun _ => rfl)
def reM : Nat → Nat → Bool := fun a j => a == 77 || (a == 60 && j == 39)
theorem reM_f : Sf reM := by
  have h : ∀ q ∈ rfL, reM q.1.1 q.1.2 = false := by decide +kernel
  exact h
theorem reM_h {a j : Nat} (h : mhX a j = false) : reM a j = false := by
  simp only [mhX, mX, reM, Bool.or_eq_false_iff, Bool.and_eq_false_iff, decide_eq_false_iff_not, beq_eq_false_iff_ne] at h ⊢
  omega
/-- a row's cells, not its log -/
def rS (w : Nat) : Nat → Nat → Bool := fun a j => a == w && decide (j < 26)
theorem rS_f {w : Nat} (hw : w = 71 ∨ w = 72) : Sf (rS w) := by
  rcases hw with rfl | rfl
  · have h : ∀ q ∈ rfL, rS 71 q.1.1 q.1.2 = false := by decide +kernel
    exact h
  · have h : ∀ q ∈ rfL, rS 72 q.1.1 q.1.2 = false := by decide +kernel
    exact h
theorem rS_h {a j : Nat} (h : mhX a j = false) : rS 71 a j = false := by
  simp only [mhX, mX, rS, Bool.or_eq_false_iff, Bool.and_eq_false_iff, decide_eq_false_iff_not, beq_eq_false_iff_ne] at h ⊢
  omega
theorem rS_m {a j : Nat} (h : mX a j = false) : rS 72 a j = false := by
  simp only [mX, rS, Bool.or_eq_false_iff, Bool.and_eq_false_iff, decide_eq_false_iff_not, beq_eq_false_iff_ne] at h ⊢
  omega
theorem i4 {i : Nat} (h : i ≤ 100) : (4 : Int32) * nI i = nI (4 * i) := by rw [y4, pk_mul]
theorem ip0 (x : Int32) : x + (0 : Int32) = x := Int32.add_zero x
theorem ip2 (a : Nat) : nI a + (2 : Int32) = nI (a + 2) := by rw [y2, nI_add]
theorem ip3 (a : Nat) : nI a + (3 : Int32) = nI (a + 3) := by rw [y3, nI_add]
theorem ip4 (a : Nat) : nI a + (4 : Int32) = nI (a + 4) := by rw [y4, nI_add]
section MD
variable {N : Nat} {σ : Me}
theorem rem50 (h : Sh σ) {c : Nat} (hc : mi σ 60 39 = nI c) (h40 : c < 40) (hN : 300 ≤ N) : ∃ σ' : Me, fc12_remember_50 N (some 60) σ = some ((), σ') ∧ Fr reM σ σ' ∧ mi σ' 60 39 = nI (c + 1) ∧ (∀ j, j < 207 → mi σ' 77 (207 * c + j) = mi σ 71 j) ∧ (∀ j, j < 207 * c → mi σ' 77 j = mi σ 77 j) := by
  have x1 : fc12_remember_50 N (some 60) σ = fc12_remember_52 N N (some 60) (nI 0) σ := rfl
  rw [x1]
  refine lp (fun fu k τ => fc12_remember_52 N fu (some 60) (nI k) τ) (fun k τ => Fr (fun a _ => a == 77) σ τ ∧ (∀ j, j < k → mi τ 77 (207 * c + j) = mi σ 71 j) ∧ (∀ j, j < 207 * c → mi τ 77 j = mi σ 77 j)) (fun o => ∃ σ' : Me, o = some ((), σ') ∧ Fr reM σ σ' ∧ mi σ' 60 39 = nI (c + 1) ∧ (∀ j, j < 207 → mi σ' 77 (207 * c + j) = mi σ 71 j) ∧ (∀ j, j < 207 * c → mi σ' 77 j = mi σ 77 j)) 207 ?_ ?_ 207 0 N σ (by omega) (by omega) ⟨Fr.rf _ _, fun j hj => by omega, fun j hj => rfl⟩
  · rintro fu τ ⟨i1, i2, i3⟩
    have hτ : Sh τ := i1.sh (by
      have h : ∀ q ∈ rfL, (fun a _ : Nat => a == 77) q.1.1 q.1.2 = false := by decide +kernel
      exact h) h
    have e39 : mi τ 60 39 = nI c := by rw [i1.i rfl]; exact hc
    refine ⟨setI τ 60 39 (nI (c + 1)), ?_, ?_, mi_eq _ _ _ _, fun j hj => ?_, fun j hj => ?_⟩
    · have c1 : (207 : Nat) ≤ 207 := by decide
      simp (disch := omega) only [fc12_remember_52, y207, nI_leI, c1, if_true, if_false, ↓reduceIte, and_true, true_and, and_false, false_and, not_true_eq_false, not_false_eq_true, and_self, qI, pI, PN hτ, bnd, e39, nI_1]
    · refine fr_I rfl (i1.mono (fun a j e => ?_))
      simp only [reM, Bool.or_eq_false_iff] at e; exact e.1
    · rw [mi_ne _ _ (by omega)]; exact i2 j hj
    · rw [mi_ne _ _ (by omega)]; exact i3 j hj
  · rintro fu k τ hk ⟨i1, i2, i3⟩
    have hτ : Sh τ := i1.sh (by
      have h : ∀ q ∈ rfL, (fun a _ : Nat => a == 77) q.1.1 q.1.2 = false := by decide +kernel
      exact h) h
    have e39 : mi τ 60 39 = nI c := by rw [i1.i rfl]; exact hc
    have e71 : mi τ 71 k = mi σ 71 k := i1.i rfl
    refine .inl ⟨setI τ 77 (207 * c + k) (mi σ 71 k), ?_, fr_I rfl i1, fun j hj => ?_, fun j hj => ?_⟩
    · have c1 : ¬ 207 ≤ k := by omega
      simp (disch := omega) only [fc12_remember_52, y207, nI_leI, c1, if_true, if_false, ↓reduceIte, and_true, true_and, and_false, false_and, not_true_eq_false, not_false_eq_true, and_self, qI, qR, PN hτ, bnd, e39, ldI_lo, stI, A71 hτ, A77 hτ, nI_clamp, nI_add, pk_mul, e71, nI_1]
    · by_cases e : j = k
      · subst e; rw [mi_eq]
      · rw [mi_ne _ _ (by omega)]; exact i2 j (by omega)
    · rw [mi_ne _ _ (by omega)]; exact i3 j hj
theorem rem11 (h : Sh σ) (hc : mi σ 60 39 = nI 40) (hN : 9000 ≤ N) : ∃ σ' : Me, fc12_remember_11 N N (some 60) (nI 0) σ = fc12_remember_50 N (some 60) σ' ∧ Fr reM σ σ' ∧ mi σ' 60 39 = nI 39 ∧ (∀ j, j < 8073 → mi σ' 77 j = mi σ 77 (207 + j)) := by
  refine lp (fun fu k τ => fc12_remember_11 N fu (some 60) (nI k) τ) (fun k τ => Fr (fun a _ => a == 77) σ τ ∧ (∀ j, j < k → mi τ 77 j = mi σ 77 (207 + j)) ∧ (∀ j, k ≤ j → mi τ 77 j = mi σ 77 j)) (fun o => ∃ σ' : Me, o = fc12_remember_50 N (some 60) σ' ∧ Fr reM σ σ' ∧ mi σ' 60 39 = nI 39 ∧ (∀ j, j < 8073 → mi σ' 77 j = mi σ 77 (207 + j))) 8073 ?_ ?_ 8073 0 N σ (by omega) (by omega) ⟨Fr.rf _ _, fun j hj => by omega, fun j hj => rfl⟩
  · rintro fu τ ⟨i1, i2, i3⟩
    have hτ : Sh τ := i1.sh (by
      have h : ∀ q ∈ rfL, (fun a _ : Nat => a == 77) q.1.1 q.1.2 = false := by decide +kernel
      exact h) h
    have e39 : mi τ 60 39 = nI 40 := by rw [i1.i rfl]; exact hc
    refine ⟨setI τ 60 39 (nI 39), ?_, ?_, mi_eq _ _ _ _, fun j hj => ?_⟩
    · have c1 : (8073 : Nat) ≤ 8073 := by decide
      have c2 : nI 40 - (1 : Int32) = nI 39 := by decide
      simp (disch := omega) only [fc12_remember_11, y8073, nI_leI, c1, if_true, if_false, ↓reduceIte, and_true, true_and, and_false, false_and, not_true_eq_false, not_false_eq_true, and_self, qI, pI, PN hτ, bnd, e39, c2]
    · refine fr_I rfl (i1.mono (fun a j e => ?_))
      simp only [reM, Bool.or_eq_false_iff] at e; exact e.1
    · rw [mi_ne _ _ (by omega)]; exact i2 j hj
  · rintro fu k τ hk ⟨i1, i2, i3⟩
    have hτ : Sh τ := i1.sh (by
      have h : ∀ q ∈ rfL, (fun a _ : Nat => a == 77) q.1.1 q.1.2 = false := by decide +kernel
      exact h) h
    have e77 : mi τ 77 (k + 207) = mi σ 77 (207 + k) := by rw [i3 _ (by omega), Nat.add_comm]
    refine .inl ⟨setI τ 77 k (mi σ 77 (207 + k)), ?_, fr_I rfl i1, fun j hj => ?_, fun j hj => ?_⟩
    · have c1 : ¬ 8073 ≤ k := by omega
      simp (disch := omega) only [fc12_remember_11, y8073, y207, nI_leI, c1, if_true, if_false, ↓reduceIte, and_true, true_and, and_false, false_and, not_true_eq_false, not_false_eq_true, and_self, qI, qR, PN hτ, bnd, ldI_lo, stI, A77 hτ, nI_clamp, nI_add, e77, nI_1]
    · by_cases e : j = k
      · subst e; rw [mi_eq]
      · rw [mi_ne _ _ (by omega)]; exact i2 j (by omega)
    · rw [mi_ne _ _ (by omega)]; exact i3 j (by omega)
theorem psh_cons (r : Rw) (acts : List Rw) : psh r acts = r :: acts.take 39 := rfl
theorem AcM.push {n : Nat} {lg : Lg} {r : Rw} {acts : List Rw} {c : Nat} (hc : (acts.take 39).length = c) (h39 : mi σ 60 39 = nI (c + 1)) (hr : RwA σ 77 (207 * c) n r) (hl : LgA σ 77 (207 * c) (rt r) lg) (hA : ∀ (i : Nat) (a : Rw), i < c → (acts.take 39)[i]? = some a → RwA σ 77 (207 * (c - 1 - i)) n a ∧ LgA σ 77 (207 * (c - 1 - i)) (rt a) lg) : AcM σ n lg (psh r acts) := by
  rw [psh_cons]
  refine ⟨by rw [List.length_cons, hc]; exact h39, fun i a e => ?_⟩
  rw [List.length_cons, hc]
  cases i with
  | zero =>
    rw [List.getElem?_cons_zero] at e
    cases e
    rw [show c + 1 - 1 - 0 = c by omega]
    exact ⟨hr, hl⟩
  | succ i =>
    rw [List.getElem?_cons_succ] at e
    have hi : i < c := by
      rcases Nat.lt_or_ge i (acts.take 39).length with q | q
      · omega
      · rw [List.getElem?_eq_none q] at e; cases e
    rw [show c + 1 - 1 - (i + 1) = c - 1 - i by omega]
    exact hA i a hi e
theorem remember_m (h : Sh σ) {n : Nat} {r : Rw} {lg : Lg} {acts : List Rw} (h6 : n ≤ 6) (hR : RwM σ 71 n r) (hl : LgM σ 71 (rt r) lg) (hA : AcM σ n lg acts) (h40 : acts.length ≤ 40) (hN : 9000 ≤ N) : ∃ σ' : Me, fc12_remember N 60 σ = some ((), σ') ∧ Fr reM σ σ' ∧ AcM σ' n lg (psh r acts) := by
  have e39 := hA.1
  have q39 : qI σ 12 39 (some 60) = some (nI acts.length) := by simp only [qI, PN h, bnd, e39]
  have tl : (acts.take 39).length = min 39 acts.length := List.length_take
  by_cases c : acts.length = 40
  · obtain ⟨σ1, a1, a2, a3, a4⟩ := rem11 (N := N) h (by rw [e39, c]) hN
    have s1 := a2.sh reM_f h
    obtain ⟨σ2, b1, b2, b3, b4, b5⟩ := rem50 (N := N) s1 a3 (by decide) (by omega)
    refine ⟨σ2, ?_, a2.tr b2, AcM.push (c := 39) (by omega) b3 (hR.toA h6 (fun j hj => ?_)) (hl.toA (fun j hj => ?_)) (fun i a hi e => ?_)⟩
    · rw [fc12_remember, q39, bnd, c, if_pos (show nI 40 = (40 : Int32) from rfl), ← b1, ← a1]; rfl
    · rw [b4 j hj, a2.i rfl]
    · rw [b4 j hj, a2.i rfl]
    · rw [List.getElem?_take, if_pos hi] at e
      obtain ⟨p1, p2⟩ := hA.2 i a e
      rw [c] at p1 p2
      have hh : ∀ j, j < 207 → mi σ2 77 (207 * (39 - 1 - i) + j) = mi σ 77 (207 * (40 - 1 - i) + j) := fun j hj => by
        rw [b5 _ (by omega), a4 _ (by omega)]
        congr 1
        omega
      exact ⟨p1.cp h6 hh, p2.cp hh⟩
  · obtain ⟨σ2, b1, b2, b3, b4, b5⟩ := rem50 (N := N) h e39 (by omega) (by omega)
    refine ⟨σ2, ?_, b2, AcM.push (c := acts.length) (by omega) b3 (hR.toA h6 (fun j hj => ?_)) (hl.toA (fun j hj => ?_)) (fun i a hi e => ?_)⟩
    · rw [fc12_remember, q39, bnd, if_neg (show ¬ nI acts.length = (40 : Int32) from fun e => c (nI_inj e (by omega) (by decide))), b1]
    · rw [b4 j hj]
    · rw [b4 j hj]
    · rw [List.take_of_length_le (by omega)] at e
      obtain ⟨p1, p2⟩ := hA.2 i a e
      have hh : ∀ j, j < 207 → mi σ2 77 (207 * (acts.length - 1 - i) + j) = mi σ 77 (207 * (acts.length - 1 - i) + j) := fun j hj => b5 _ (by omega)
      exact ⟨p1.cp h6 hh, p2.cp hh⟩
/-- an act is kept -/
theorem remH {S : Sy} (h : Sh σ) (hr : RM σ S) (hw : WS S) (h0 : pn (sQ S) ≠ 0) (hN : 9000 ≤ N) : ∃ σ1 : Me, fc12_remember N 60 σ = some ((), σ1) ∧ Sh σ1 ∧ Fr reM σ σ1 ∧ HsM σ1 (sQ S) (sR S) (sG S) (psh (sR S) (sA S)) (sI S) ∧ LwM σ1 (sL S) (sH S) := by
  obtain ⟨a1, a2, a3, a4, a5, a6, a7, a8⟩ := hw.hs.yes h0
  obtain ⟨h5, h6, h7, h8, h9⟩ := hr.2.2.2.2.1
  obtain ⟨σ1, k1, k2, k3⟩ := remember_m (N := N) h a2.1 h6 h7 h8 a6 hN
  exact ⟨σ1, k1, k2.sh reM_f h, k2, ⟨h5.fr k2 rfl (fun _ => ⟨rfl, rfl⟩), h6.fr k2 (fun _ => rfl), h7.fr k2 (fun _ _ => rfl), k3, h9.fr k2 rfl (fun _ => rfl)⟩, hr.2.1.fr k2 rfl rfl (fun _ => ⟨rfl, rfl⟩) (hr.2.1.2.2.2.fr k2 (fun _ => ⟨rfl, rfl⟩))⟩
/-- then the row is another one -/
theorem actM {S : Sy} (h : Sh σ) (hr : RM σ S) (hw : WS S) {σ1 σ2 : Me} {r' : Rw} (k2 : Fr reM σ σ1) (hh : HsM σ1 (sQ S) (sR S) (sG S) (psh (sR S) (sA S)) (sI S)) (hl : LwM σ1 (sL S) (sH S)) (f2 : Fr (rS 71) σ1 σ2) (hL : RwM σ2 71 (pn (sQ S)) r') (ht : rt r' = rt (sR S)) : Sh σ2 ∧ Fr mhX σ σ2 ∧ RM σ2 (acS S r') := by
  have fr : Fr mhX σ σ2 := (k2.mono (fun a j e => reM_h e)).tr (f2.mono (fun a j e => rS_h e))
  obtain ⟨h5, h6, h7, h8, h9⟩ := hh
  refine ⟨fr.sh mhX_f h, fr, hr.hs fr hw (hl.2.2.2.fr f2 (fun _ => ⟨rfl, rfl⟩)) ⟨h5.fr f2 rfl (fun _ => ⟨rfl, rfl⟩), hL, ?_, h8.fr f2 rfl (fun _ => rfl), h9.fr f2 rfl (fun _ => rfl)⟩⟩
  rw [ht]
  exact h7.fr f2 (fun j hj => by simp [rS]; omega)
end MD
