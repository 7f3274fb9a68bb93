/-! the reference takes the fields one by one: who is next, what is left -/
def bt (M k : Nat) : Nat := M / 2 ^ k % 2
def nxt (g : Nat → Nat) (M : Nat) : Nat → Nat → Option Nat → Option Nat
  | 0, _, b => b
  | m + 1, k, b => nxt g M m (k + 1) (if bt M k = 1 then b else match b with
      | none => some k
      | some j => if g k ≤ g j then some j else some k)
def lfM (M : Nat) (d : Nat → Nat) : Nat → Nat → Nat → Nat
  | 0, _, l => l
  | m + 1, k, l => lfM M d m (k + 1) (if bt M k = 1 then l - d k else l)
def cnt (M : Nat) : Nat → Nat
  | 0 => 0
  | k + 1 => cnt M k + bt M k
theorem bt_01 (M k : Nat) : bt M k = 0 ∨ bt M k = 1 := by unfold bt; omega
theorem bt_or {M f k : Nat} (hM : M < 64) (hf : f < 6) (hk : k < 6) : bt (M ||| 2 ^ f) k = if k = f then 1 else bt M k := bit_has M hM f hf k hk
theorem bef_not {g : Nat → Nat} {k f : Nat} (h : k ≠ f) : befB g k f = true ↔ ¬ befB g f k = true := by
  simp only [befB, Bool.or_eq_true, Bool.and_eq_true, decide_eq_true_eq]
  omega
theorem bef_self (g : Nat → Nat) (f : Nat) : ¬ befB g f f = true := by
  simp only [befB, Bool.or_eq_true, Bool.and_eq_true, decide_eq_true_eq]
  omega
theorem bef_tr {g : Nat → Nat} {i j k : Nat} (h1 : befB g i j = true) (h2 : befB g j k = true) : befB g i k = true := by
  simp only [befB, Bool.or_eq_true, Bool.and_eq_true, decide_eq_true_eq] at h1 h2 ⊢
  omega
/-- the best so far among those that are not met -/
def nbst (g : Nat → Nat) (M k : Nat) : Option Nat → Prop
  | none => ∀ j, j < k → bt M j = 1
  | some b => b < k ∧ bt M b = 0 ∧ ∀ j, j < k → bt M j = 0 → j ≠ b → befB g b j = true
theorem nxt_spec (g : Nat → Nat) (M : Nat) : ∀ (m k : Nat) (b : Option Nat), nbst g M k b → nbst g M (k + m) (nxt g M m k b)
  | 0, k, b, h => h
  | m + 1, k, b, h => by
    unfold nxt
    rw [show k + (m + 1) = k + 1 + m by omega]
    refine nxt_spec g M m (k + 1) _ ?_
    by_cases hm : bt M k = 1
    · rw [if_pos hm]
      cases b with
      | none =>
        intro j hj
        by_cases e : j = k
        · rw [e]; exact hm
        · exact h j (by omega)
      | some b =>
        refine ⟨by have := h.1; omega, h.2.1, fun j hj hj0 hjb => h.2.2 j ?_ hj0 hjb⟩
        by_cases e : j = k
        · rw [e, hm] at hj0; omega
        · omega
    · rw [if_neg hm]
      have hm0 : bt M k = 0 := by have := bt_01 M k; omega
      cases b with
      | none =>
        refine ⟨by omega, hm0, fun j hj hj0 hjk => ?_⟩
        have := h j (by omega)
        omega
      | some b =>
        by_cases hg : g k ≤ g b
        · simp only [hg, if_true]
          refine ⟨by have := h.1; omega, h.2.1, fun j hj hj0 hjb => ?_⟩
          by_cases e : j = k
          · subst e
            have hb := h.1
            simp only [befB, Bool.or_eq_true, Bool.and_eq_true, decide_eq_true_eq]
            omega
          · exact h.2.2 j (by omega) hj0 hjb
        · simp only [hg, if_false]
          have hkb : befB g k b = true := by
            simp only [befB, Bool.or_eq_true, Bool.and_eq_true, decide_eq_true_eq]
            omega
          refine ⟨by omega, hm0, fun j hj hj0 hjk => ?_⟩
          by_cases e : j = b
          · rw [e]; exact hkb
          · exact bef_tr hkb (h.2.2 j (by omega) hj0 e)
theorem cnt_le (M : Nat) : ∀ n, cnt M n ≤ n
  | 0 => Nat.le_refl _
  | n + 1 => by
    have := cnt_le M n
    have := bt_01 M n
    unfold cnt
    omega
theorem cnt_all (M : Nat) : ∀ n, cnt M n = n → ∀ k, k < n → bt M k = 1
  | 0, _, k, h => absurd h (Nat.not_lt_zero _)
  | n + 1, e, k, h => by
    have h1 := cnt_le M n
    have h2 := bt_01 M n
    unfold cnt at e
    by_cases c : k = n
    · rw [c]; omega
    · exact cnt_all M n (by omega) k (by omega)
theorem cnt_full (M : Nat) : ∀ n, (∀ k, k < n → bt M k = 1) → cnt M n = n
  | 0, _ => rfl
  | n + 1, h => by
    unfold cnt
    rw [cnt_full M n (fun k hk => h k (by omega)), h n (by omega)]
theorem cnt_or {M f : Nat} (hM : M < 64) (hf : f < 6) (h0 : bt M f = 0) : ∀ n, n ≤ 6 → cnt (M ||| 2 ^ f) n = cnt M n + if f < n then 1 else 0
  | 0, _ => rfl
  | n + 1, hn => by
    unfold cnt
    rw [cnt_or hM hf h0 n (by omega), bt_or hM hf (by omega)]
    by_cases e : n = f
    · subst e
      rw [if_pos rfl, if_neg (by omega), if_pos (by omega), h0]
    · rw [if_neg e]
      by_cases c : f < n
      · rw [if_pos c, if_pos (by omega)]; omega
      · rw [if_neg c, if_neg (by omega)]; omega
theorem lfM_sub (M : Nat) (d : Nat → Nat) : ∀ (m k l x : Nat), lfM M d m k (l - x) = lfM M d m k l - x
  | 0, _, _, _ => rfl
  | m + 1, k, l, x => by
    unfold lfM
    by_cases c : bt M k = 1
    · rw [if_pos c, if_pos c, Nat.sub_right_comm, lfM_sub]
    · rw [if_neg c, if_neg c, lfM_sub]
theorem lfM_or {M f : Nat} (d : Nat → Nat) (hM : M < 64) (hf : f < 6) (h0 : bt M f = 0) : ∀ (m k l : Nat), k + m ≤ 6 → lfM (M ||| 2 ^ f) d m k l = lfM M d m k l - if k ≤ f ∧ f < k + m then d f else 0
  | 0, k, l, _ => by
    rw [if_neg (by omega)]; rfl
  | m + 1, k, l, hk => by
    unfold lfM
    rw [lfM_or d hM hf h0 m (k + 1) _ (by omega), bt_or hM hf (by omega)]
    by_cases e : k = f
    · subst e
      rw [if_pos (rfl : k = k), if_pos (rfl : (1 : Nat) = 1), if_neg (show ¬ bt M k = 1 by omega), if_neg (show ¬ (k + 1 ≤ k ∧ k < k + 1 + m) by omega), if_pos (show k ≤ k ∧ k < k + (m + 1) by omega), lfM_sub, Nat.sub_zero]
    · rw [if_neg e]
      by_cases c : k + 1 ≤ f ∧ f < k + 1 + m
      · rw [if_pos c, if_pos (show k ≤ f ∧ f < k + (m + 1) by omega)]
      · rw [if_neg c, if_neg (show ¬ (k ≤ f ∧ f < k + (m + 1)) by omega)]
theorem lf_M {g d : Nat → Nat} {f n : Nat} {M : Nat} (h : ∀ k, k < n → (befB g k f = true ↔ bt M k = 1)) : ∀ (m k l : Nat), k + m = n → lf g d f m k l = lfM M d m k l
  | 0, _, _, _ => rfl
  | m + 1, k, l, hk => by
    unfold lf lfM
    by_cases c : bt M k = 1
    · rw [if_pos c, if_pos ((h k (by omega)).mpr c), lf_M h m (k + 1) _ (by omega)]
    · rw [if_neg c, if_neg (fun e => c ((h k (by omega)).mp e)), lf_M h m (k + 1) _ (by omega)]
/-- the met ones are a beginning of the order -/
def Seg (g : Nat → Nat) (n M : Nat) : Prop := ∀ j, j < n → bt M j = 1 → ∀ k, k < n → befB g k j = true → bt M k = 1
theorem seg_next {g : Nat → Nat} {n M f : Nat} (h : Seg g n M) (hf : f < n) (h0 : bt M f = 0) (hb : ∀ j, j < n → bt M j = 0 → j ≠ f → befB g f j = true) : ∀ k, k < n → (befB g k f = true ↔ bt M k = 1) := by
  intro k hk
  by_cases e : k = f
  · subst e
    constructor
    · intro q; exact absurd q (bef_self g k)
    · intro q; omega
  · constructor
    · intro q
      rcases bt_01 M k with c | c
      · exact absurd q (fun q => (bef_not e).mp q (hb k hk c e))
      · exact c
    · intro q
      refine (bef_not e).mpr (fun q2 => ?_)
      have := h k hk q f hf q2
      omega
theorem seg_or {g : Nat → Nat} {n M f : Nat} (h : Seg g n M) (hn : n ≤ 6) (hM : M < 64) (hf : f < n) (h1 : ∀ k, k < n → (befB g k f = true ↔ bt M k = 1)) : Seg g n (M ||| 2 ^ f) := by
  intro j hj hj1 k hk hkj
  rw [bt_or hM (by omega) (by omega)] at hj1 ⊢
  by_cases e : k = f
  · rw [if_pos e]
  · rw [if_neg e]
    by_cases c : j = f
    · subst c
      exact (h1 k hk).mp hkj
    · rw [if_neg c] at hj1
      exact h j hj hj1 k hk hkj
