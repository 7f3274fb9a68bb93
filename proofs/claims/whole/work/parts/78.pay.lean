/-! what the held law pays -/
def Lof (o n w v s t : Nat) : Nat → Int32 := fun k => match k with
  | 0 => nI o
  | 1 => nI n
  | 2 => nI w
  | 3 => nI v
  | 4 => nI s
  | _ => nI t
def hld (x : Int32) : Nat := if x < 0 then 0 else if nI 99 < x then 99 else x.toNatClampNeg
theorem nI_cn {x : Int32} (h : ¬ x < 0) : nI x.toNatClampNeg = x := by
  obtain ⟨j, hj, rfl⟩ := nI_of h
  rw [nI_clamp hj]
theorem hld_le (x : Int32) : hld x ≤ 99 := by
  unfold hld
  split
  · omega
  · split
    · omega
    · rename_i h1 h2
      obtain ⟨j, hj, rfl⟩ := nI_of h1
      rw [nI_clamp hj]
      rw [nI_ltI (by decide) hj] at h2
      omega
theorem held_c (N : Nat) (x : Int32) (ρ : Me) : fc11_held N (nI 0) x (nI 99) ρ = some (nI (hld x), ρ) := by
  unfold fc11_held hld
  by_cases c : x < 0
  · have c1 : ¬ nI 0 ≤ x := by
      rw [i_toInt_lt] at c
      rw [i_toInt_le, nI_toInt (by decide)]
      have : (0 : Int32).toInt = 0 := rfl
      rw [this] at c
      omega
    rw [if_neg c1, if_pos c]
  · have c1 : nI 0 ≤ x := by
      rw [i_toInt_lt] at c
      rw [i_toInt_le, nI_toInt (by decide)]
      have : (0 : Int32).toInt = 0 := rfl
      rw [this] at c
      omega
    rw [if_pos c1, if_neg c]
    by_cases c2 : nI 99 < x
    · have c3 : ¬ x ≤ nI 99 := by
        rw [i_toInt_lt] at c2
        rw [i_toInt_le]
        omega
      rw [if_neg c3, if_pos c2]
    · have c3 : x ≤ nI 99 := by
        rw [i_toInt_lt] at c2
        rw [i_toInt_le]
        omega
      rw [if_pos c3, if_neg c2, nI_cn c]
theorem paid98_c (N : Nat) (x : Int32) (ρ : Me) : fc12_paid_98 N x ρ = some (nI (hld x), ρ) := by
  unfold fc12_paid_98 fMt_min fMt_max hld
  rw [y99]
  by_cases c : x < 0
  · have c1 : x < nI 99 := by
      rw [i_toInt_lt] at c
      rw [i_toInt_lt, nI_toInt (by decide)]
      have : (0 : Int32).toInt = 0 := rfl
      rw [this] at c
      omega
    have c2 : ¬ (0 : Int32) < x := by
      rw [i_toInt_lt] at c ⊢
      omega
    rw [if_pos c1, bnd, if_neg c2, bnd, if_pos c]
    rfl
  · obtain ⟨j, hj, rfl⟩ := nI_of c
    rw [if_neg c, nI_clamp hj]
    by_cases c2 : 99 < j
    · rw [if_neg (nI_nlt (by omega) hj), bnd, if_pos (nI_lt c2 hj)]
      rfl
    · by_cases c3 : j < 99
      · rw [if_pos (nI_lt c3 (by decide)), bnd, if_neg (nI_nlt (by omega) (by decide))]
        by_cases c4 : j = 0
        · subst c4; rfl
        · have c5 : (0 : Int32) < nI j := by
            rw [y0]; exact nI_lt (by omega) hj
          rw [if_pos c5]; rfl
      · have e : j = 99 := by omega
        subst e
        rfl
def payQ (C : List Ci) : PF := fun o n w v s t => hld (wrun (Lof o n w v s t) C [] false)
def qOf (ls : List LwE) (hold : Option Nat) : PF := match hold.bind fun k => ls[k]? with
  | none => fun o _ _ _ _ _ => min 99 (o / 2)
  | some q => payQ q.2.2
theorem qOf_B (ls : List LwE) (hold : Option Nat) : QB (qOf ls hold) := by
  intro o n w v s t
  unfold qOf
  generalize (hold.bind fun k => ls[k]?) = z
  cases z with
  | none => exact Nat.min_le_left _ _
  | some q => exact hld_le _
def holdOK (ls : List LwE) (hold : Option Nat) : Prop := ∀ k, hold = some k → k < ls.length
def codeOK (C : List Ci) : Prop := C.length ≤ 240 ∧ ∀ c ∈ C, ciOK c
theorem pdC_of {N : Nat} {σ : Me} {ls : List LwE} {hold : Option Nat} (h : Sh σ) (hl : LwC σ ls hold) (hh : holdOK ls hold) (hc : ∀ (k : Nat) (q : LwE), ls[k]? = some q → codeOK q.2.2) (hN : 300 ≤ N) : PdC N σ (bOf ls hold) (qOf ls hold) := by
  cases hold with
  | none => exact .inl ⟨hl.2.2.1, fun o n w v s t ho => rfl⟩
  | some k =>
    have hk := hh k rfl
    cases e : ls[k]? with
    | none => rw [List.getElem?_eq_none_iff] at e; omega
    | some q =>
      have e1 : bOf ls (some k) = q.1 + 2 := by unfold bOf; rw [Option.bind_some, e]
      have e2 : qOf ls (some k) = payQ q.2.2 := by unfold qOf; rw [Option.bind_some, e]
      have e3 : mr σ 31 0 = some q.1 := by rw [hl.2.2.1, Option.bind_some, e]; rfl
      have hq := (hl.2.2.2 k q e).2
      rw [e1, e2]
      refine .inr ⟨q.1, e3, dr_ok hq.1, fun τ hτ o n w v s t _ _ _ _ _ _ l0 l1 l2 l3 l4 l5 => ?_⟩
      have h85 : 85 ≤ q.1 := hq.2.2.2.1
      have hqt := hq.fr hτ (fun j => by simp [sS] <;> omega) (fun j => by simp [sS] <;> omega)
      obtain ⟨τ', w1, w2⟩ := worth_c (N := N) (L := Lof o n w v s t) (hτ.sh (sS_f _) h) hqt (fun k hk => by
        have : k = 0 ∨ k = 1 ∨ k = 2 ∨ k = 3 ∨ k = 4 ∨ k = 5 := by omega
        rcases this with rfl | rfl | rfl | rfl | rfl | rfl
        · exact l0
        · exact l1
        · exact l2
        · exact l3
        · exact l4
        · exact l5) (hc k q e).1 (hc k q e).2 hN
      exact ⟨_, τ', w1, w2, fun ρ => held_c N _ ρ⟩
