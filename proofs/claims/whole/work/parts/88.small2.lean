/-! what is there, and what is told, in the class -/
def loN (g : Nat → Nat) : Nat → Nat → Nat → Nat
  | 0, _, j => j
  | m + 1, k, j => loN g m (k + 1) (if g j ≤ g k then j else k)
def hiN (g : Nat → Nat) : Nat → Nat → Nat → Nat
  | 0, _, j => j
  | m + 1, k, j => hiN g m (k + 1) (if g k ≤ g j then j else k)
def btN (p : Nat → Bool) : Nat → Nat → Nat → Nat
  | 0, _, acc => acc
  | m + 1, k, acc => btN p m (k + 1) (if p k = true then acc ||| 2 ^ k else acc)
theorem loN_lt (g : Nat → Nat) {n : Nat} : ∀ (m k j : Nat), k + m = n → j < n → loN g m k j < n
  | 0, _, _, _, hj => hj
  | m + 1, k, j, hk, hj => by
    unfold loN
    refine loN_lt g m (k + 1) _ (by omega) ?_
    split <;> omega
theorem hiN_lt (g : Nat → Nat) {n : Nat} : ∀ (m k j : Nat), k + m = n → j < n → hiN g m k j < n
  | 0, _, _, _, hj => hj
  | m + 1, k, j, hk, hj => by
    unfold hiN
    refine hiN_lt g m (k + 1) _ (by omega) ?_
    split <;> omega
section ZS
variable {N : Nat} {σ : Me}
theorem row_ar (h : Sh σ) {x : Nat} (hx : 20 ≤ x ∧ x ≤ 24) : ∀ k, k < 6 → arr σ .int (some x) (nI k) = some x := by
  have : x = 20 ∨ x = 21 ∨ x = 22 ∨ x = 23 ∨ x = 24 := by omega
  rcases this with rfl | rfl | rfl | rfl | rfl
  · exact A20 h
  · exact A21 h
  · exact A22 h
  · exact A23 h
  · exact A24 h
theorem lowest_c (h : Sh σ) {n x : Nat} {g : Nat → Nat} (hn : mi σ 19 5 = nI n) (h6 : n ≤ 6) (h2 : 2 ≤ n) (hx : 20 ≤ x ∧ x ≤ 24) (hg : ∀ k, k < n → mi σ x k = nI (g k) ∧ g k ≤ 999) (hN : 10 ≤ N) : fc2_lowest N 19 (some x) σ = some (nI (loN g (n - 1) 1 0), σ) := by
  have ax := row_ar h hx
  have key : ∀ (m k fu j : Nat), k + m = n → m < fu → j < n → fc2_lowest_4 N fu (some 19) (some x) (nI j) (nI k) σ = some (nI (loN g m k j), σ) := by
    intro m
    induction m with
    | zero =>
      intro k fu j hk hfu hj
      obtain ⟨fu, rfl⟩ : ∃ f, fu = f + 1 := ⟨fu - 1, by omega⟩
      have c : n ≤ k := by omega
      simp (disch := omega) only [fc2_lowest_4, qI, PK h, bnd, hn, nI_leI, c, if_true, if_false, ↓reduceIte, and_true, true_and, and_false, false_and, not_true_eq_false, not_false_eq_true, and_self, loN]
    | succ m ih =>
      intro k fu j hk hfu hj
      obtain ⟨fu, rfl⟩ : ∃ f, fu = f + 1 := ⟨fu - 1, by omega⟩
      have c : ¬ n ≤ k := by omega
      obtain ⟨e, eb⟩ := hg k (by omega)
      obtain ⟨e', eb'⟩ := hg j hj
      rw [loN]
      by_cases cg : g j ≤ g k
      · rw [if_pos cg, ← ih (k + 1) fu j (by omega) (by omega) hj]
        simp (disch := omega) only [fc2_lowest_4, fc2_lowest_23, qI, PK h, bnd, hn, nI_leI, c, if_true, if_false, ↓reduceIte, and_true, true_and, and_false, false_and, not_true_eq_false, not_false_eq_true, and_self, ldI_lo, ax, nI_clamp, e, e', cg, nI_1]
      · rw [if_neg cg, ← ih (k + 1) fu k (by omega) (by omega) (by omega)]
        simp (disch := omega) only [fc2_lowest_4, fc2_lowest_23, qI, PK h, bnd, hn, nI_leI, c, if_true, if_false, ↓reduceIte, and_true, true_and, and_false, false_and, not_true_eq_false, not_false_eq_true, and_self, ldI_lo, ax, nI_clamp, e, e', cg, nI_1]
  exact key (n - 1) 1 N 0 (by omega) (by omega) (by omega)
theorem highest_c (h : Sh σ) {n x : Nat} {g : Nat → Nat} (hn : mi σ 19 5 = nI n) (h6 : n ≤ 6) (h2 : 2 ≤ n) (hx : 20 ≤ x ∧ x ≤ 24) (hg : ∀ k, k < n → mi σ x k = nI (g k) ∧ g k ≤ 999) (hN : 10 ≤ N) : fc2_highest N 19 (some x) σ = some (nI (hiN g (n - 1) 1 0), σ) := by
  have ax := row_ar h hx
  have key : ∀ (m k fu j : Nat), k + m = n → m < fu → j < n → fc2_highest_4 N fu (some 19) (some x) (nI j) (nI k) σ = some (nI (hiN g m k j), σ) := by
    intro m
    induction m with
    | zero =>
      intro k fu j hk hfu hj
      obtain ⟨fu, rfl⟩ : ∃ f, fu = f + 1 := ⟨fu - 1, by omega⟩
      have c : n ≤ k := by omega
      simp (disch := omega) only [fc2_highest_4, qI, PK h, bnd, hn, nI_leI, c, if_true, if_false, ↓reduceIte, and_true, true_and, and_false, false_and, not_true_eq_false, not_false_eq_true, and_self, hiN]
    | succ m ih =>
      intro k fu j hk hfu hj
      obtain ⟨fu, rfl⟩ : ∃ f, fu = f + 1 := ⟨fu - 1, by omega⟩
      have c : ¬ n ≤ k := by omega
      obtain ⟨e, eb⟩ := hg k (by omega)
      obtain ⟨e', eb'⟩ := hg j hj
      rw [hiN]
      by_cases cg : g k ≤ g j
      · rw [if_pos cg, ← ih (k + 1) fu j (by omega) (by omega) hj]
        simp (disch := omega) only [fc2_highest_4, fc2_highest_23, qI, PK h, bnd, hn, nI_leI, c, if_true, if_false, ↓reduceIte, and_true, true_and, and_false, false_and, not_true_eq_false, not_false_eq_true, and_self, ldI_lo, ax, nI_clamp, e, e', cg, nI_1]
      · rw [if_neg cg, ← ih (k + 1) fu k (by omega) (by omega) (by omega)]
        simp (disch := omega) only [fc2_highest_4, fc2_highest_23, qI, PK h, bnd, hn, nI_leI, c, if_true, if_false, ↓reduceIte, and_true, true_and, and_false, false_and, not_true_eq_false, not_false_eq_true, and_self, ldI_lo, ax, nI_clamp, e, e', cg, nI_1]
  exact key (n - 1) 1 N 0 (by omega) (by omega) (by omega)
theorem btN_lt (p : Nat → Bool) : ∀ (m k acc : Nat), k + m ≤ 6 → acc < 64 → btN p m k acc < 64
  | 0, _, _, _, h => h
  | m + 1, k, acc, hk, h => by
    unfold btN
    refine btN_lt p m (k + 1) _ (by omega) ?_
    split
    · exact bit_lt acc h k (by omega)
    · exact h
theorem thirsty_c (h : Sh σ) {P : Pl} {r : Rw} (hL : LdC σ 19 P r) (h6 : pn P ≤ 6) (hR : RwB (pn P) r) (hN : 10 ≤ N) : fc2_thirsty N 19 σ = some (nI (btN (fun f => decide (rw_ r f < rn r f)) (pn P) 0 0), σ) := by
  have key : ∀ (m k fu acc : Nat), k + m = pn P → m < fu → acc < 64 → fc2_thirsty_4 N fu (some 19) (nI acc) (nI k) σ = some (nI (btN (fun f => decide (rw_ r f < rn r f)) m k acc), σ) := by
    intro m
    induction m with
    | zero =>
      intro k fu acc hk hfu hj
      obtain ⟨fu, rfl⟩ : ∃ f, fu = f + 1 := ⟨fu - 1, by omega⟩
      have c : pn P ≤ k := by omega
      simp (disch := omega) only [fc2_thirsty_4, qI, PK h, bnd, hL.1, nI_leI, c, if_true, if_false, ↓reduceIte, and_true, true_and, and_false, false_and, not_true_eq_false, not_false_eq_true, and_self, btN]
    | succ m ih =>
      intro k fu acc hk hfu hj
      obtain ⟨fu, rfl⟩ : ∃ f, fu = f + 1 := ⟨fu - 1, by omega⟩
      have c : ¬ pn P ≤ k := by omega
      obtain ⟨-, e2, e3, -, -⟩ := hL.2.2.2.2.2 k (by omega)
      obtain ⟨-, b2, b3, -⟩ := hR.2.2 k (by omega)
      have hbit := bit_or acc hj k (by omega)
      have hlt := bit_lt acc hj k (by omega)
      rw [btN]
      by_cases cg : rn r k ≤ rw_ r k
      · have d : decide (rw_ r k < rn r k) = false := by simp; omega
        simp only [d, Bool.false_eq_true, if_false, ↓reduceIte]
        rw [← ih (k + 1) fu acc (by omega) (by omega) hj]
        simp (disch := omega) only [fc2_thirsty_4, fc2_thirsty_33, qI, qR, PK h, bnd, hL.1, nI_leI, c, if_true, if_false, ↓reduceIte, and_true, true_and, and_false, false_and, not_true_eq_false, not_false_eq_true, and_self, ldI_lo, A21 h, A22 h, nI_clamp, e2, e3, cg, nI_1]
      · have d : decide (rw_ r k < rn r k) = true := by simp; omega
        simp only [d, if_true, ↓reduceIte]
        rw [← ih (k + 1) fu (acc ||| 2 ^ k) (by omega) (by omega) hlt]
        simp (disch := omega) only [fc2_thirsty_4, fc2_thirsty_33, qI, qR, PK h, bnd, hL.1, nI_leI, c, if_true, if_false, ↓reduceIte, and_true, true_and, and_false, false_and, not_true_eq_false, not_false_eq_true, and_self, ldI_lo, A21 h, A22 h, nI_clamp, e2, e3, cg, nI_1, hbit]
  exact key (pn P) 0 N 0 (by omega) (by omega) (by decide)
def alA (P : Pl) (r : Rw) (x : Int32) : Int32 := if pn P = 0 then -1 else if x = 0 then nI (loN (rc r) (pn P - 1) 1 0) else if x = 1 then nI (loN (rw_ r) (pn P - 1) 1 0) else if x = 2 then nI (hiN (ro r) (pn P - 1) 1 0) else if x = 3 then nI (hiN (rn r) (pn P - 1) 1 0) else if x = 4 then nI (smN (ro r) (pn P) 0 0) else if x = 5 then nI (rn r (hiN (rn r) (pn P - 1) 1 0) * pn P) else if x = 6 then nI (btN (fun f => decide (rw_ r f < rn r f)) (pn P) 0 0) else -1
theorem all_c {S : Sy} (h : Sh σ) (hr : RC σ S) (hw : WS S) (hN : 10 ≤ N) (x : Int32) : fc11_all N 0 x σ = some (alA (sQ S) (sR S) x, σ) := by
  have b6 := hw.n6
  have hL := hr.2.2.2.2.1.1
  have r10 : qR σ 11 10 (some 0) = some (some 19) := by simp only [qR, PK h, bnd]
  have q5 : qI σ 2 5 (some 19) = some (nI (pn (sQ S))) := by simp only [qI, PK h, bnd, hL.1]
  unfold fc11_all alA
  rw [r10, bnd, q5, bnd]
  by_cases h0 : pn (sQ S) = 0
  · rw [if_pos h0, if_pos (by rw [h0]; rfl)]
  · obtain ⟨a1, a2, a3, -⟩ := hw.hs.yes h0
    rw [if_neg h0, if_neg (nI_ne0 (by omega) (by omega))]
    have d19 : dr σ (some 19) (.inl 2) = some 19 := by simp only [PK h]
    have q0 : qR σ 2 0 (some 19) = some (some 20) := by simp only [qR, PK h, bnd]
    have q1 : qR σ 2 1 (some 19) = some (some 21) := by simp only [qR, PK h, bnd]
    have q2 : qR σ 2 2 (some 19) = some (some 22) := by simp only [qR, PK h, bnd]
    have q4 : qR σ 2 4 (some 19) = some (some 24) := by simp only [qR, PK h, bnd]
    have g0 : ∀ k, k < pn (sQ S) → mi σ 20 k = nI (ro (sR S) k) ∧ ro (sR S) k ≤ 999 := fun k hk => ⟨(hL.2.2.2.2.2 k hk).1, (a3.2.2 k hk).1⟩
    have g1 : ∀ k, k < pn (sQ S) → mi σ 21 k = nI (rn (sR S) k) ∧ rn (sR S) k ≤ 999 := fun k hk => ⟨(hL.2.2.2.2.2 k hk).2.1, by have := (a3.2.2 k hk).2.1; omega⟩
    have g2 : ∀ k, k < pn (sQ S) → mi σ 22 k = nI (rw_ (sR S) k) ∧ rw_ (sR S) k ≤ 999 := fun k hk => ⟨(hL.2.2.2.2.2 k hk).2.2.1, by have := (a3.2.2 k hk).2.2.1; omega⟩
    have g4 : ∀ k, k < pn (sQ S) → mi σ 24 k = nI (rc (sR S) k) ∧ rc (sR S) k ≤ 999 := fun k hk => ⟨(hL.2.2.2.2.2 k hk).2.2.2.2, (a3.2.2 k hk).2.2.2⟩
    by_cases c0 : x = 0
    · rw [if_pos c0, if_pos c0]
      simp only [bnd, q4, d19, lowest_c h hL.1 b6 a1 (by omega) g4 hN]
    rw [if_neg c0, if_neg c0]
    by_cases c1 : x = 1
    · rw [if_pos c1, if_pos c1]
      simp only [bnd, q2, d19, lowest_c h hL.1 b6 a1 (by omega) g2 hN]
    rw [if_neg c1, if_neg c1]
    by_cases c2 : x = 2
    · rw [if_pos c2, if_pos c2]
      simp only [bnd, q0, d19, highest_c h hL.1 b6 a1 (by omega) g0 hN]
    rw [if_neg c2, if_neg c2]
    by_cases c3 : x = 3
    · rw [if_pos c3, if_pos c3]
      simp only [bnd, q1, d19, highest_c h hL.1 b6 a1 (by omega) g1 hN]
    rw [if_neg c3, if_neg c3]
    by_cases c4 : x = 4
    · rw [if_pos c4, if_pos c4]
      simp only [bnd, q0, d19, sum_c h hL.1 b6 (by omega) g0 hN]
    rw [if_neg c4, if_neg c4]
    by_cases c5 : x = 5
    · have hj := hiN_lt (rn (sR S)) (n := pn (sQ S)) (pn (sQ S) - 1) 1 0 (by omega) (by omega)
      have hh := highest_c (N := N) h hL.1 b6 a1 (x := 21) (by omega) g1 hN
      generalize hiN (rn (sR S)) (pn (sQ S) - 1) 1 0 = j at hj hh ⊢
      have l21 : ldI σ (some 21) (nI j) = some (nI (rn (sR S) j)) := by simp (disch := omega) only [ldI_lo, A21 h, bnd, nI_clamp, (g1 j hj).1]
      rw [if_pos c5, if_pos c5]
      simp only [bnd, q1, d19, hh, l21, r10, q5, pk_mul]
    rw [if_neg c5, if_neg c5]
    by_cases c6 : x = 6
    · rw [if_pos c6, if_pos c6]
      simp only [bnd, d19, thirsty_c h hL b6 a3 hN]
    rw [if_neg c6, if_neg c6]
theorem shares_c {S : Sy} (h : Sh σ) (hr : RC σ S) (hw : WS S) (hN : 10 ≤ N) {f c : Nat} (hf : f < pn (sQ S)) (hc : c ≤ 999) : fc11_shares N 0 (nI f) (nI c) σ = some (if smN (ro (sR S)) (pn (sQ S)) 0 0 = 0 then 0 else nI (c * ro (sR S) f / smN (ro (sR S)) (pn (sQ S)) 0 0), σ) := by
  have b6 := hw.n6
  have hL := hr.2.2.2.2.1.1
  obtain ⟨a1, a2, a3, -⟩ := hw.hs.yes (show pn (sQ S) ≠ 0 by omega)
  have g0 : ∀ k, k < pn (sQ S) → mi σ 20 k = nI (ro (sR S) k) ∧ ro (sR S) k ≤ 999 := fun k hk => ⟨(hL.2.2.2.2.2 k hk).1, (a3.2.2 k hk).1⟩
  have hs := sum_c (N := N) h hL.1 b6 (x := 20) (by omega) g0 hN
  have hsl := smN_le (ro (sR S)) (B := 999) (n := pn (sQ S)) (fun k hk => (g0 k hk).2) (pn (sQ S)) 0 0 (by omega)
  generalize smN (ro (sR S)) (pn (sQ S)) 0 0 = s at hs hsl ⊢
  obtain ⟨e1, eb⟩ := g0 f hf
  have cc : ¬ (1 : Int32) = 0 := by decide
  have d1 := nI_pos (n := c) (by omega)
  have hm : c * ro (sR S) f ≤ 999 * 999 := Nat.mul_le_mul hc eb
  by_cases c0 : s = 0
  · rw [if_pos c0]
    subst c0
    simp (disch := omega) only [fc11_shares, qR, PK h, bnd, has_y h (.inl rfl) hL.1 b6 hf, cc, if_true, if_false, ↓reduceIte, and_true, true_and, and_false, false_and, not_true_eq_false, not_false_eq_true, and_self, d1, y999, nI_leI, hc, hs, nI_0]
  · rw [if_neg c0]
    have n0 : ¬ nI s = 0 := nI_ne0 (by omega) (by omega)
    simp (disch := omega) only [fc11_shares, qR, PK h, bnd, has_y h (.inl rfl) hL.1 b6 hf, cc, if_true, if_false, ↓reduceIte, and_true, true_and, and_false, false_and, not_true_eq_false, not_false_eq_true, and_self, d1, y999, nI_leI, hc, hs, n0, ldI_lo, A20 h, nI_clamp, e1, pk_mul, dv_n]
theorem shares_n {S : Sy} (h : Sh σ) (hr : RC σ S) (hw : WS S) {x y : Int32} (hx : ¬ ∃ f c : Nat, f < pn (sQ S) ∧ c ≤ 999 ∧ x = nI f ∧ y = nI c) : fc11_shares N 0 x y σ = some (-1, σ) := by
  have b6 := hw.n6
  have hn := hr.2.2.2.2.1.1.1
  have c : ¬ (1 : Int32) = 0 := by decide
  rcases nix x (n := pn (sQ S)) (by omega) with q | ⟨i, hi, rfl⟩
  · simp (disch := omega) only [fc11_shares, qR, PK h, bnd, has_n h (.inl rfl) hn q, if_true, if_false, ↓reduceIte, and_true, true_and, and_false, false_and, not_true_eq_false, not_false_eq_true, and_self]
  · by_cases c1 : y < 0
    · simp (disch := omega) only [fc11_shares, qR, PK h, bnd, has_y h (.inl rfl) hn b6 hi, c, c1, if_true, if_false, ↓reduceIte, and_true, true_and, and_false, false_and, not_true_eq_false, not_false_eq_true, and_self]
    · by_cases c2 : y ≤ 999
      · exfalso
        obtain ⟨w, hw, rfl⟩ := nI_of c1
        rw [y999, nI_leI hw (by decide)] at c2
        exact hx ⟨i, w, hi, c2, rfl, rfl⟩
      · simp (disch := omega) only [fc11_shares, qR, PK h, bnd, has_y h (.inl rfl) hn b6 hi, c, c1, c2, if_true, if_false, ↓reduceIte, and_true, true_and, and_false, false_and, not_true_eq_false, not_false_eq_true, and_self]
theorem buyers_c {S : Sy} (h : Sh σ) (hr : RC σ S) (hw : WS S) (hN : 10 ≤ N) (h0 : pn (sQ S) ≠ 0) {n : Nat} (h1 : 1 ≤ n) (hn : n ≤ 20) : fc11_buyers N 0 (nI n) σ = some (nI (btN (fun f => decide (n * rp (sR S) ≤ rc (sR S) f)) (pn (sQ S)) 0 0), σ) := by
  have b6 := hw.n6
  have hL := hr.2.2.2.2.1.1
  obtain ⟨a1, a2, a3, -⟩ := hw.hs.yes h0
  have hm := sale_m a3 hn
  have key : ∀ (m k fu acc : Nat), k + m = pn (sQ S) → m < fu → acc < 64 → fc11_buyers_23 N fu (some 0) (nI n) (nI acc) (nI k) σ = some (nI (btN (fun f => decide (n * rp (sR S) ≤ rc (sR S) f)) m k acc), σ) := by
    intro m
    induction m with
    | zero =>
      intro k fu acc hk hfu hj
      obtain ⟨fu, rfl⟩ : ∃ f, fu = f + 1 := ⟨fu - 1, by omega⟩
      have c : pn (sQ S) ≤ k := by omega
      simp (disch := omega) only [fc11_buyers_23, qR, qI, PK h, bnd, hL.1, nI_leI, c, if_true, if_false, ↓reduceIte, and_true, true_and, and_false, false_and, not_true_eq_false, not_false_eq_true, and_self, btN]
    | succ m ih =>
      intro k fu acc hk hfu hj
      obtain ⟨fu, rfl⟩ : ∃ f, fu = f + 1 := ⟨fu - 1, by omega⟩
      have c : ¬ pn (sQ S) ≤ k := by omega
      have e5 := (hL.2.2.2.2.2 k (by omega)).2.2.2.2
      have b4 := (a3.2.2 k (by omega)).2.2.2
      have hbit := bit_or acc hj k (by omega)
      have hlt := bit_lt acc hj k (by omega)
      rw [btN]
      have e8 := hL.2.2.2.1
      generalize hz : n * rp (sR S) = z at hm ih ⊢
      by_cases cg : rc (sR S) k < z
      · have d : decide (z ≤ rc (sR S) k) = false := by simp; omega
        simp only [d, Bool.false_eq_true, if_false, ↓reduceIte]
        rw [← ih (k + 1) fu acc (by omega) (by omega) hj]
        simp (disch := omega) only [fc11_buyers_23, fc11_buyers_61, qI, qR, PK h, bnd, hL.1, nI_leI, nI_ltI, c, if_true, if_false, ↓reduceIte, and_true, true_and, and_false, false_and, not_true_eq_false, not_false_eq_true, and_self, ldI_lo, A24 h, nI_clamp, e5, e8, pk_mul, hz, cg, nI_1]
      · have d : decide (z ≤ rc (sR S) k) = true := by simp; omega
        simp only [d, if_true, ↓reduceIte]
        rw [← ih (k + 1) fu (acc ||| 2 ^ k) (by omega) (by omega) hlt]
        simp (disch := omega) only [fc11_buyers_23, fc11_buyers_61, qI, qR, PK h, bnd, hL.1, nI_leI, nI_ltI, c, if_true, if_false, ↓reduceIte, and_true, true_and, and_false, false_and, not_true_eq_false, not_false_eq_true, and_self, ldI_lo, A24 h, nI_clamp, e5, e8, pk_mul, hz, cg, nI_1, hbit]
  have cc : ¬ (1 : Int32) = 0 := by decide
  have d0 : ¬ nI (pn (sQ S)) = 0 := nI_ne0 (by omega) (by omega)
  rw [← key (pn (sQ S)) 0 N 0 (by omega) (by omega) (by decide)]
  simp (disch := omega) only [fc11_buyers, qR, qI, PK h, bnd, hL.1, d0, some_y h1 hn, cc, if_true, if_false, ↓reduceIte, and_true, true_and, and_false, false_and, not_true_eq_false, not_false_eq_true, and_self]
  rfl
theorem buyers_n {S : Sy} (h : Sh σ) (hr : RC σ S) (hw : WS S) {x : Int32} (hx : ¬ ∃ n : Nat, pn (sQ S) ≠ 0 ∧ 1 ≤ n ∧ n ≤ 20 ∧ x = nI n) : fc11_buyers N 0 x σ = some (-1, σ) := by
  have b6 := hw.n6
  have hn := hr.2.2.2.2.1.1.1
  by_cases h0 : pn (sQ S) = 0
  · rw [h0] at hn
    simp (disch := omega) only [fc11_buyers, qR, qI, PK h, bnd, hn, nI_0, if_true, if_false, ↓reduceIte, and_true, true_and, and_false, false_and, not_true_eq_false, not_false_eq_true, and_self]
  · have d0 : ¬ nI (pn (sQ S)) = 0 := nI_ne0 (by omega) (by omega)
    simp (disch := omega) only [fc11_buyers, qR, qI, PK h, bnd, hn, d0, some_n (fun ⟨j, h1, h2, h3⟩ => hx ⟨j, h0, h1, h2, h3⟩), if_true, if_false, ↓reduceIte, and_true, true_and, and_false, false_and, not_true_eq_false, not_false_eq_true, and_self]
/-! what holds -/
def withL (S : Sy) (hold : Option Nat) : Sy := (sT S, sL S, hold, sP S, sE S, sQ S, sR S, sG S, sA S, sI S, sF S)
def withE (S : Sy) (e : Nat) : Sy := (sT S, sL S, sH S, sP S, e, sQ S, sR S, sG S, sA S, sI S, sF S)
def withF (S : Sy) (fs : List Fa) : Sy := (sT S, sL S, sH S, sP S, sE S, sQ S, sR S, sG S, sA S, sI S, fs)
def withT (S : Sy) (T : Tx) : Sy := (T, sL S, sH S, sP S, sE S, sQ S, sR S, sG S, sA S, sI S, sF S)
theorem HsC.fr {X : Nat → Nat → Bool} {σ σ' : Me} {P : Pl} {r : Rw} {lg : Lg} {acts : List Rw} {img : Im} (h : HsC σ P r lg acts img) (k : Fr X σ σ') (hn : pn P ≤ 6) (h1 : ∀ a j, 19 ≤ a → a ≤ 24 → X a j = false) (h2 : ∀ a j, 37 ≤ a → a ≤ 47 → X a j = false) : HsC σ' P r lg acts img :=
  ⟨h.1.fr k (fun j => ⟨h1 _ _ (by omega) (by omega), h1 _ _ (by omega) (by omega), h1 _ _ (by omega) (by omega), h1 _ _ (by omega) (by omega), h1 _ _ (by omega) (by omega), h1 _ _ (by omega) (by omega)⟩), h.2.1.fr k hn (h2 _ _ (by omega) (by omega)) (h2 _ _ (by omega) (by omega)) (fun j => h2 _ _ (by omega) (by omega)), h.2.2.1.fr k (fun j => ⟨h2 _ _ (by omega) (by omega), h2 _ _ (by omega) (by omega), h2 _ _ (by omega) (by omega)⟩), h.2.2.2.fr k hn (h2 _ _ (by omega) (by omega)) (fun j => ⟨h2 _ _ (by omega) (by omega), h2 _ _ (by omega) (by omega), h2 _ _ (by omega) (by omega), h2 _ _ (by omega) (by omega)⟩)⟩
/-- what the law and the heresy are written to -/
def wX : Nat → Nat → Bool := fun a j => (a == 0 && (j == 8 || j == 9)) || (a == 31 && j == 0)
theorem wX_f : Sf wX := by
  have h : ∀ q ∈ rfL, wX q.1.1 q.1.2 = false := by decide +kernel
  exact h
theorem law_c {S : Sy} (h : Sh σ) (hr : RC σ S) (hw : WS S) {hold : Option Nat} (hh : holdOK (sL S) hold) : ∃ σ' : Me, fc11_law N 0 (oI hold) σ = some (1, σ') ∧ Sh σ' ∧ Fr clS σ σ' ∧ RC σ' (withL S hold) ∧ WS (withL S hold) := by
  obtain ⟨h1, h2, h3, h4, h5, h9⟩ := hr
  have h4l := hw.2.1
  have hv : ∃ lo : Option Nat, lo = (hold.bind fun k => ((sL S)[k]?).map Prod.fst) := ⟨_, rfl⟩
  obtain ⟨lo, hlo⟩ := hv
  have fr : Fr wX σ (setR (setI σ 0 8 (oI hold)) 31 0 lo) := fr_R rfl (fr_I rfl (Fr.rf _ _))
  have hs := fr.sh wX_f h
  refine ⟨setR (setI σ 0 8 (oI hold)) 31 0 lo, ?_, hs, fr.mono (fun a j e => ?_), ⟨?_, ⟨?_, ?_, ?_, fun k q e => ?_⟩, ?_, ?_, ?_, ?_⟩, ?_⟩
  · have d31 : dr σ (some 31) (.inl 9) = some 31 := by simp only [PK h]
    cases hold with
    | none =>
      have hlo : lo = none := hlo
      subst hlo
      have c1 : ¬ oI none < (-1 : Int32) := by decide
      have c2 : oI none < nI (sL S).length := by
        show (-1 : Int32) < nI (sL S).length
        rw [i_toInt_lt, nI_toInt (by omega)]
        have : (-1 : Int32).toInt = -1 := rfl
        omega
      have c3 : oI none = (-1 : Int32) := rfl
      simp (disch := omega) only [fc11_law, c1, qI, PK h, bnd, h2.1, c2, if_true, if_false, ↓reduceIte, and_true, true_and, and_false, false_and, not_true_eq_false, not_false_eq_true, and_self, pI, qR, dr_setI, mr_setI]
      rw [if_pos c3]
      simp only [fc11_law_39, pR, dr_setI, d31, bnd, retZ1]
    | some k =>
      have hk := hh k rfl
      have e := List.getElem?_eq_getElem hk
      have hlo : lo = some (sL S)[k].1 := by rw [hlo]; show ((sL S)[k]?).map Prod.fst = _; rw [e]; rfl
      subst hlo
      have c1 : ¬ oI (some k) < (-1 : Int32) := by
        show ¬ nI k < -1
        rw [i_toInt_lt, nI_toInt (by omega)]
        have : (-1 : Int32).toInt = -1 := rfl
        omega
      have c2 : oI (some k) < nI (sL S).length := nI_lt hk (by omega)
      have c3 : ¬ oI (some k) = (-1 : Int32) := nI_m1 (by omega)
      have e17 := (h2.2.2.2 k _ e).1
      have a17 := A17 h k (by omega)
      have ek : oI (some k) = nI k := rfl
      simp (disch := omega) only [fc11_law, c1, qI, PK h, bnd, h2.1, c2, if_true, if_false, ↓reduceIte, and_true, true_and, and_false, false_and, not_true_eq_false, not_false_eq_true, and_self, pI, qR, dr_setI, mr_setI, c3]
      rw [ek]
      simp (disch := omega) only [ldR, arr_setI, a17, bnd, nI_clamp, mr_setI, e17, fc11_law_39, pR, dr_setI, d31, retZ1]
  · simp only [clS, wX, Bool.or_eq_false_iff, Bool.and_eq_false_iff, decide_eq_false_iff_not, beq_eq_false_iff_ne] at e ⊢
    omega
  · exact h1.fr fr rfl (fun _ => rfl)
  · rw [fr.i rfl]; exact h2.1
  · exact mi_eq σ 0 8 (oI hold)
  · exact (mr_eq (setI σ 0 8 (oI hold)) 31 0 lo).trans hlo
  · obtain ⟨q1, q2⟩ := h2.2.2.2 k q e
    have h85 : 85 ≤ q.1 := q2.2.2.2.1
    exact ⟨by rw [fr.r rfl]; exact q1, q2.fr fr (fun j => by simp [wX] <;> omega) (fun j => by simp [wX] <;> omega)⟩
  · exact h3.fr h2 fr (b := 0) (.inl (by decide)) rfl (fun _ => rfl) (fun a j h1 _ => by simp [wX]; omega)
  · show mi (setI σ 0 8 (oI hold)) 0 9 = _
    rw [mi_ne _ _ (by omega)]; exact h4
  · exact h5.fr fr hw.n6 (fun a j h1 h2 => by simp [wX]; omega) (fun a j h1 h2 => by simp [wX]; omega)
  · exact h9.fr fr rfl (fun _ => ⟨rfl, rfl, rfl, rfl⟩)
  · exact ⟨hw.1, hw.2.1, hw.2.2.1, hh, hw.2.2.2.2⟩
theorem law_n {S : Sy} (h : Sh σ) (hr : RC σ S) (hw : WS S) {x : Int32} (hx : ¬ ∃ hold : Option Nat, holdOK (sL S) hold ∧ x = oI hold) : fc11_law N 0 x σ = some (0, σ) := by
  have h2 := hr.2.1.1
  have h4l := hw.2.1
  unfold fc11_law
  by_cases c1 : x < (-1 : Int32)
  · rw [if_pos c1]; rfl
  · rw [if_neg c1]
    have q : qI σ 11 6 (some 0) = some (nI (sL S).length) := by simp only [qI, PK h, bnd, h2]
    rw [q, bnd, if_neg]
    · rfl
    · intro c2
      by_cases c3 : x < 0
      · refine hx ⟨none, (fun k e => by cases e), ?_⟩
        apply Int32.toInt_inj.1
        rw [i_toInt_lt] at c1 c3
        have a1 : (-1 : Int32).toInt = -1 := rfl
        have a2 : (0 : Int32).toInt = 0 := rfl
        show x.toInt = (-1 : Int32).toInt
        omega
      · obtain ⟨k, hk, rfl⟩ := nI_of c3
        rw [nI_ltI hk (by omega)] at c2
        exact hx ⟨some k, fun k' e => by cases e; exact c2, rfl⟩
theorem heresy_c {S : Sy} (h : Sh σ) (hr : RC σ S) (hw : WS S) {v : Nat} (hv : v ≤ 9) (hne : v ≠ sE S) : ∃ σ' : Me, fc11_heresy N 0 (nI v) σ = some (1, σ') ∧ Sh σ' ∧ Fr clS σ σ' ∧ RC σ' (withE S v) ∧ WS (withE S v) := by
  obtain ⟨h1, h2, h3, h4, h5, h9⟩ := hr
  have hE := hw.2.2.2.2.2.2.1
  have fr : Fr wX σ (setI σ 0 9 (nI v)) := fr_I rfl (Fr.rf _ _)
  have hs := fr.sh wX_f h
  refine ⟨setI σ 0 9 (nI v), ?_, hs, fr.mono (fun a j e => ?_), ⟨h1.fr fr rfl (fun _ => rfl), ⟨?_, ?_, ?_, fun k q e => ?_⟩, ?_, ?_, ?_, ?_⟩, ?_⟩
  · have c0 := nI_pos (n := v) (by omega)
    have c1 : ¬ 9 < v := by omega
    simp (disch := omega) only [fc11_heresy, c0, y9, nI_ltI, c1, if_true, if_false, ↓reduceIte, and_true, true_and, and_false, false_and, not_true_eq_false, not_false_eq_true, and_self, qI, PK h, bnd, h4, nI_eq, hne, pI, retZ1]
  · simp only [clS, wX, Bool.or_eq_false_iff, Bool.and_eq_false_iff, decide_eq_false_iff_not, beq_eq_false_iff_ne] at e ⊢
    omega
  · rw [fr.i rfl]; exact h2.1
  · rw [mi_ne _ _ (by omega)]; exact h2.2.1
  · exact h2.2.2.1
  · obtain ⟨q1, q2⟩ := h2.2.2.2 k q e
    have h85 : 85 ≤ q.1 := q2.2.2.2.1
    exact ⟨q1, q2.fr fr (fun j => by simp [wX] <;> omega) (fun j => by simp [wX] <;> omega)⟩
  · exact h3.fr h2 fr (b := 0) (.inl (by decide)) rfl (fun _ => rfl) (fun a j h1 _ => by simp [wX]; omega)
  · exact mi_eq _ _ _ _
  · exact h5.fr fr hw.n6 (fun a j h1 h2 => by simp [wX]; omega) (fun a j h1 h2 => by simp [wX]; omega)
  · exact h9.fr fr rfl (fun _ => ⟨rfl, rfl, rfl, rfl⟩)
  · exact ⟨hw.1, hw.2.1, hw.2.2.1, hw.2.2.2.1, hw.2.2.2.2.1, hw.2.2.2.2.2.1, hv, hw.2.2.2.2.2.2.2⟩
theorem heresy_n {S : Sy} (h : Sh σ) (hr : RC σ S) (hw : WS S) {x : Int32} (hx : ¬ ∃ v : Nat, v ≤ 9 ∧ v ≠ sE S ∧ x = nI v) : fc11_heresy N 0 x σ = some (0, σ) := by
  have hE := hw.2.2.2.2.2.2.1
  have h4 := hr.2.2.2.1
  unfold fc11_heresy
  by_cases c1 : x < 0
  · rw [if_pos c1]; rfl
  · rw [if_neg c1]
    by_cases c2 : (9 : Int32) < x
    · rw [if_pos c2]; rfl
    · have q : qI σ 11 9 (some 0) = some (nI (sE S)) := by simp only [qI, PK h, bnd, h4]
      rw [if_neg c2, q, bnd]
      obtain ⟨v, hv, rfl⟩ := nI_of c1
      rw [y9, nI_ltI (by decide) hv] at c2
      have c3 : v = sE S := by
        rcases Nat.decEq v (sE S) with e | e
        · exact absurd ⟨v, by omega, e, rfl⟩ hx
        · exact e
      rw [c3, if_pos rfl]
      rfl
/-! what fell -/
theorem fell_c {S : Sy} (h : Sh σ) (hr : RC σ S) (hw : WS S) {f rain v : Nat} (hf : f < pn (sQ S)) (hrain : rain ≤ 99) (hv : v ≤ 99) (hl : (sF S).length < 10) (had : Bool) : ∃ σ' : Me, fc11_fell N 0 (nI f) (nI rain) (nI v) (bI had) σ = some (nI ((sF S).length + 1), σ') ∧ Sh σ' ∧ Fr clS σ σ' ∧ RC σ' (withF S (sF S ++ [(f, rain, v, had)])) ∧ WS (withF S (sF S ++ [(f, rain, v, had)])) := by
  have b6 := hw.n6
  obtain ⟨h1, h2, h3, h4, h5, h9⟩ := hr
  obtain ⟨k1, k2⟩ := h9
  have fr : Fr (fun a j => (a == 48 && j == 4) || (decide (49 ≤ a) && decide (a ≤ 52))) σ (setI (setI (setI (setI (setI σ 49 (sF S).length (nI f)) 50 (sF S).length (nI rain)) 51 (sF S).length (nI v)) 52 (sF S).length (bI had)) 48 4 (nI ((sF S).length + 1))) := fr_I rfl (fr_I rfl (fr_I rfl (fr_I rfl (fr_I rfl (Fr.rf _ _)))))
  have hs := fr.sh (by
    have h : ∀ q ∈ rfL, (fun a j : Nat => (a == 48 && j == 4) || (decide (49 ≤ a) && decide (a ≤ 52))) q.1.1 q.1.2 = false := by decide +kernel
    exact h) h
  refine ⟨_, ?_, hs, fr.mono (fun a j e => ?_), ⟨h1.fr fr rfl (fun _ => rfl), h2.fr fr (b := 0) (.inl (by decide)) rfl rfl (fun _ => rfl) rfl (fun a j h1 _ => by simp; omega), h3.fr h2 fr (b := 0) (.inl (by decide)) rfl (fun _ => rfl) (fun a j h1 _ => by simp; omega), ?_, h5.fr fr b6 (fun a j h1 h2 => by simp; omega) (fun a j h1 h2 => by simp; omega), ?_, fun k q e => ?_⟩, ?_⟩
  · have cc : ¬ (1 : Int32) = 0 := by decide
    have c0 := nI_pos (n := v) (by omega)
    have c1 : ¬ 99 < v := by omega
    have q4 : qI σ 1 4 (some 48) = some (nI (sF S).length) := by simp only [qI, PK h, bnd, k1]
    have full : fc1_isFull N 48 σ = some (0, σ) := by
      unfold fc1_isFull
      rw [q4, bnd, y10, if_pos (nI_lt hl (by decide))]
      rfl
    have nar : vp_nar .boolean (bI had) = bI had := by cases had <;> decide
    have note : fc1_note N 48 (nI f) (nI rain) (nI v) (bI had) σ = some ((), setI (setI (setI (setI (setI σ 49 (sF S).length (nI f)) 50 (sF S).length (nI rain)) 51 (sF S).length (nI v)) 52 (sF S).length (bI had)) 48 4 (nI ((sF S).length + 1))) := by
      simp (disch := omega) only [fc1_note, PK h, bnd, full, if_true, if_false, ↓reduceIte, and_true, true_and, and_false, false_and, not_true_eq_false, not_false_eq_true, and_self, qR, qI, k1, stI, stZ, pI, A49 h, A50 h, A51 h, A52 h, nI_clamp, dr_setI, mr_setI, arr_setI, mi_ne, nar, nI_1]
    simp (disch := omega) only [fc11_fell, qR, PK h, bnd, has_y h (.inl rfl) h5.1.1 b6 hf, cc, if_true, if_false, ↓reduceIte, and_true, true_and, and_false, false_and, not_true_eq_false, not_false_eq_true, and_self, rain_y hrain, c0, y99, nI_ltI, c1, full, note, PK hs, qI, dr_setI, mr_setI, mi_eq]
  · simp only [clS, Bool.or_eq_false_iff, Bool.and_eq_false_iff, decide_eq_false_iff_not, beq_eq_false_iff_ne] at e ⊢
    omega
  · show mi (setI _ 48 4 _) 0 9 = _
    simp (disch := omega) only [mi_ne]; exact h4
  · show mi (setI _ 48 4 _) 48 4 = nI (sF S ++ [(f, rain, v, had)]).length
    rw [mi_eq, List.length_append, List.length_singleton]
  · have e : (sF S ++ [(f, rain, v, had)])[k]? = some q := e
    by_cases ek : k < (sF S).length
    · rw [List.getElem?_append_left ek] at e
      simp (disch := omega) only [mi_ne]
      exact k2 k q e
    · rw [List.getElem?_append_right (by omega)] at e
      by_cases e0 : k = (sF S).length
      · subst e0
        rw [Nat.sub_self] at e
        cases e
        simp (disch := omega) only [mi_ne, mi_eq]
        refine ⟨trivial, trivial, trivial, ?_⟩
        cases had <;> rfl
      · rw [List.getElem?_eq_none (by rw [List.length_singleton]; omega)] at e
        cases e
  · refine ⟨hw.1, hw.2.1, hw.2.2.1, hw.2.2.2.1, hw.2.2.2.2.1, hw.2.2.2.2.2.1, hw.2.2.2.2.2.2.1, hw.2.2.2.2.2.2.2.1, ?_, fun k q e => ?_⟩
    · show (sF S ++ [(f, rain, v, had)]).length ≤ 10
      rw [List.length_append, List.length_singleton]; omega
    · have e : (sF S ++ [(f, rain, v, had)])[k]? = some q := e
      show faOK (pn (sQ S)) q
      by_cases ek : k < (sF S).length
      · rw [List.getElem?_append_left ek] at e
        exact hw.2.2.2.2.2.2.2.2.2 k q e
      · rw [List.getElem?_append_right (by omega)] at e
        by_cases e0 : k = (sF S).length
        · subst e0
          rw [Nat.sub_self] at e
          cases e
          exact ⟨hf, hrain, hv⟩
        · rw [List.getElem?_eq_none (by rw [List.length_singleton]; omega)] at e
          cases e
theorem fell_n {S : Sy} (h : Sh σ) (hr : RC σ S) (hw : WS S) {x y z u : Int32} (hx : ¬ ∃ f rain v : Nat, f < pn (sQ S) ∧ rain < 100 ∧ v ≤ 99 ∧ (sF S).length < 10 ∧ x = nI f ∧ y = nI rain ∧ z = nI v) : fc11_fell N 0 x y z u σ = some (-1, σ) := by
  have b6 := hw.n6
  have hn := hr.2.2.2.2.1.1.1
  have hl := hw.2.2.2.2.2.2.2.2.1
  have k1 := hr.2.2.2.2.2.1
  have c : ¬ (1 : Int32) = 0 := by decide
  rcases nix x (n := pn (sQ S)) (by omega) with q | ⟨i, hi, rfl⟩
  · simp (disch := omega) only [fc11_fell, qR, PK h, bnd, has_n h (.inl rfl) hn q, if_true, if_false, ↓reduceIte, and_true, true_and, and_false, false_and, not_true_eq_false, not_false_eq_true, and_self]
  · rcases nix y (n := 100) (by omega) with q | ⟨j, hj, rfl⟩
    · simp (disch := omega) only [fc11_fell, qR, PK h, bnd, has_y h (.inl rfl) hn b6 hi, rain_n q, c, if_true, if_false, ↓reduceIte, and_true, true_and, and_false, false_and, not_true_eq_false, not_false_eq_true, and_self]
    · by_cases c1 : z < 0
      · simp (disch := omega) only [fc11_fell, qR, PK h, bnd, has_y h (.inl rfl) hn b6 hi, rain_y (show j ≤ 99 by omega), c, c1, if_true, if_false, ↓reduceIte, and_true, true_and, and_false, false_and, not_true_eq_false, not_false_eq_true, and_self]
      · by_cases c2 : (99 : Int32) < z
        · simp (disch := omega) only [fc11_fell, qR, PK h, bnd, has_y h (.inl rfl) hn b6 hi, rain_y (show j ≤ 99 by omega), c, c1, c2, if_true, if_false, ↓reduceIte, and_true, true_and, and_false, false_and, not_true_eq_false, not_false_eq_true, and_self]
        · have c3 : ¬ (sF S).length < 10 := by
            intro e
            obtain ⟨v, hv, rfl⟩ := nI_of c1
            rw [y99, nI_ltI (by decide) hv] at c2
            exact hx ⟨i, j, v, hi, hj, by omega, e, rfl, rfl, rfl⟩
          have q4 : qI σ 1 4 (some 48) = some (nI (sF S).length) := by simp only [qI, PK h, bnd, k1]
          have full : fc1_isFull N 48 σ = some (1, σ) := by
            unfold fc1_isFull
            rw [q4, bnd, y10, if_neg (nI_nlt (by omega) (by omega))]
            rfl
          simp (disch := omega) only [fc11_fell, qR, PK h, bnd, has_y h (.inl rfl) hn b6 hi, rain_y (show j ≤ 99 by omega), c, c1, c2, full, if_true, if_false, ↓reduceIte, and_true, true_and, and_false, false_and, not_true_eq_false, not_false_eq_true, and_self]
end ZS
