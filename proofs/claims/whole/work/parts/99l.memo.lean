/-! what the reference's law pays: read anew, or kept -/
def LX (ls : List LwE) : Prop := ∀ (k : Nat) (q : LwE), ls[k]? = some q → ∃ z, pLaw q.2.1 = .inr (z, q.2.2)
theorem memo_lt {k o n w v s t : Nat} (hk : k ≤ 4) (ho : o ≤ 999) (hn : n ≤ 20) (hw : w ≤ 30) (hv : v ≤ 9) (hs : s ≤ 49) (ht : t ≤ 1500) : memoK k o n w v s t < 2 ^ 63 ∧ 0 < memoK k o n w v s t := by
  unfold memoK
  omega
theorem memo_inj {k o n w v s t k' o' n' w' v' s' t' : Nat} (ho : o ≤ 999) (hn : n ≤ 20) (hw : w ≤ 30) (hv : v ≤ 9) (hs : s ≤ 49) (ht : t ≤ 1500) (ho' : o' ≤ 999) (hn' : n' ≤ 20) (hw' : w' ≤ 30) (hv' : v' ≤ 9) (hs' : s' ≤ 49) (ht' : t' ≤ 1500) (e : memoK k o n w v s t = memoK k' o' n' w' v' s' t') : k = k' ∧ o = o' ∧ n = n' ∧ w = w' ∧ v = v' ∧ s = s' ∧ t = t' := by
  unfold memoK at e
  have e1 : 1000 * (1 + k) + o = 1000 * (1 + k') + o' → k = k' ∧ o = o' := by omega
  generalize 1000 * (1 + k) + o = A1 at e e1
  generalize 1000 * (1 + k') + o' = B1 at e e1
  have e2 : 21 * A1 + n = 21 * B1 + n' → A1 = B1 ∧ n = n' := by omega
  generalize 21 * A1 + n = A2 at e e2
  generalize 21 * B1 + n' = B2 at e e2
  have e3 : 31 * A2 + w = 31 * B2 + w' → A2 = B2 ∧ w = w' := by omega
  generalize 31 * A2 + w = A3 at e e3
  generalize 31 * B2 + w' = B3 at e e3
  have e4 : 10 * A3 + v = 10 * B3 + v' → A3 = B3 ∧ v = v' := by omega
  generalize 10 * A3 + v = A4 at e e4
  generalize 10 * B3 + v' = B4 at e e4
  have e5 : 50 * A4 + s = 50 * B4 + s' → A4 = B4 ∧ s = s' := by omega
  generalize 50 * A4 + s = A5 at e e5
  generalize 50 * B4 + s' = B5 at e e5
  have e6 : A5 = B5 ∧ t = t' := by omega
  have e5 := e5 e6.1
  have e4 := e4 e5.1
  have e3 := e3 e4.1
  have e2 := e2 e3.1
  have e1 := e1 e2.1
  exact ⟨e1.1, e1.2, e2.2, e3.2, e4.2, e5.2, e6.2⟩
theorem key_m {k o n w v s t : Nat} (hk : k ≤ 4) (ho : o ≤ 999) (hn : n ≤ 20) (hw : w ≤ 30) (hv : v ≤ 9) (hs : s ≤ 49) (ht : t ≤ 1500) : ((2000 : Int64) * (((50 : Int64) * (((10 : Int64) * (((31 : Int64) * (((21 : Int64) * (((1000 : Int64) * ((1 : Int64) + (Int32.toInt64 (nI k)))) + (Int32.toInt64 (nI o)))) + (Int32.toInt64 (nI n)))) + (Int32.toInt64 (nI w)))) + (Int32.toInt64 (nI v)))) + (Int32.toInt64 (nI s)))) + (Int32.toInt64 (nI t)) = lN (memoK k o n w v s t) := by
  rw [nI_l (by omega), nI_l (by omega), nI_l (by omega), nI_l (by omega), nI_l (by omega), nI_l (by omega), nI_l (by omega)]
  rw [show (2000 : Int64) = lN 2000 from rfl, show (50 : Int64) = lN 50 from rfl, show (10 : Int64) = lN 10 from rfl, show (31 : Int64) = lN 31 from rfl, show (21 : Int64) = lN 21 from rfl, show (1000 : Int64) = lN 1000 from rfl, show (1 : Int64) = lN 1 from rfl]
  simp only [lN_add, lN_mul]
  rfl
theorem ltr_c {c : Nat} (h : ltrI c ≠ 0) : c = 111 ∨ c = 110 ∨ c = 119 ∨ c = 118 ∨ c = 115 ∨ c = 116 := by
  unfold ltrI at h
  repeat' split at h
  all_goals omega
theorem let_S {τ : Me} {o n w v s t : Nat} (h : LetM τ o n w v s t) (ho : o ≤ 999) (hn : n ≤ 20) (hw : w ≤ 30) (hv : v ≤ 9) (hs : s ≤ 49) (ht : t ≤ 1500) : LtS True (Lof o n w v s t) τ := by
  intro _ c hc
  obtain ⟨h1, h2, h3, h4, h5, h6⟩ := h
  rcases ltr_c hc with rfl | rfl | rfl | rfl | rfl | rfl
  · exact ⟨h1, Bd_num (by omega)⟩
  · exact ⟨h2, Bd_num (by omega)⟩
  · exact ⟨h3, Bd_num (by omega)⟩
  · exact ⟨h4, Bd_num (by omega)⟩
  · exact ⟨h5, Bd_num (by omega)⟩
  · exact ⟨h6, Bd_num (by omega)⟩
theorem goX_m {a j : Nat} (h : mS a j = false) : goX a j = false := by
  simp only [goX, mS, Bool.or_eq_false_iff, Bool.and_eq_false_iff, decide_eq_false_iff_not, beq_eq_false_iff_ne] at h ⊢
  omega
section MZ
variable {N : Nat}
theorem worth_m (hN : 300 ≤ N) {ls : List LwE} (h4 : ls.length ≤ 4) (hx : LX ls) (ht : ∀ (k : Nat) (q : LwE), ls[k]? = some q → txOK q.2.1) {k : Nat} {q : LwE} (hq : ls[k]? = some q) {τ : Me} (hs : Sh τ) (hl : LwM τ ls (some k)) {o n w v s t : Nat} (b1 : o ≤ 999) (b2 : n ≤ 20) (b3 : w ≤ 30) (b4 : v ≤ 9) (b5 : s ≤ 49) (b6 : t ≤ 1500) (hL : LetM τ o n w v s t) : ∃ τ' : Me, fc12_worthNow N 60 τ = some (wrun (Lof o n w v s t) q.2.2 [] false, τ') ∧ Fr mS τ τ' ∧ Sh τ' ∧ LwM τ' ls (some k) := by
  have hk : k < ls.length := by
    rcases Nat.lt_or_ge k ls.length with c | c
    · exact c
    · rw [List.getElem?_eq_none c] at hq; cases hq
  have e30 : mi τ 60 30 = nI k := hl.2.1
  obtain ⟨m1, m2⟩ := memo_lt (k := k) (by omega) b1 b2 b3 b4 b5 b6
  have hkey := key_m (k := k) (by omega) b1 b2 b3 b4 b5 b6
  obtain ⟨l1, l2, l3, l4, l5, l6⟩ := id hL
  have q4 : qR τ 12 4 (some 60) = some (some 64) := by simp only [qR, PN hs, bnd]
  have ld : ∀ (x : Int32) (c : Nat) (y : Int32), x = nI c → c < 128 → mi τ 64 c = y → ldI τ (some 64) x = some y := fun x c y hx hc hy => by
    rw [hx, ldI_lo _ _ _ (by decide), A64 hs _ hc, bnd, nI_clamp (by omega), hy]
  have hz : memoK k o n w v s t % 8191 < 8191 := Nat.mod_lt _ (by decide)
  have rm : rmL (lN (memoK k o n w v s t)) (8191 : Int64) = some (lN (memoK k o n w v s t % 8191)) := by
    unfold rmL
    rw [if_neg (by decide), show (8191 : Int64) = lN 8191 from rfl, pk_lRem m1 (by decide) (by decide)]
  generalize hze : memoK k o n w v s t % 8191 = z at hz rm
  have lz : ldL τ (some 73) (Int64.toInt32 (lN z)) = some (ml τ 73 z) := by
    unfold ldL
    rw [lN_i, A73 hs z hz, bnd, nI_clamp (by omega)]
  have q32 : qR τ 12 32 (some 60) = some (some 73) := by simp only [qR, PN hs, bnd]
  rw [fc12_worthNow, mq hs e30, bnd, q4, bnd, ld (111 : Int32) 111 _ rfl (by decide) l1, bnd, bnd, ld (110 : Int32) 110 _ rfl (by decide) l2, bnd, bnd, ld (119 : Int32) 119 _ rfl (by decide) l3, bnd, bnd, ld (118 : Int32) 118 _ rfl (by decide) l4, bnd, bnd, ld (115 : Int32) 115 _ rfl (by decide) l5, bnd, bnd, ld (116 : Int32) 116 _ rfl (by decide) l6, bnd, hkey, rm, bnd, q32, bnd, lz, bnd]
  by_cases c : ml τ 73 z = lN (memoK k o n w v s t)
  · have q33 : qR τ 12 33 (some 60) = some (some 74) := by simp only [qR, PN hs, bnd]
    have lw : ldI τ (some 74) (Int64.toInt32 (lN z)) = some (mi τ 74 z) := by
      rw [lN_i, ldI_lo _ _ _ (by decide), A74 hs z hz, bnd, nI_clamp (by omega)]
    rw [if_pos ((lg_cmp_eq _ _).mpr c), q33, bnd, lw, bnd]
    refine ⟨τ, ?_, Fr.rf _ _, hs, hl⟩
    have hm := hl.2.2.2 z hz
    rcases hm with hm | ⟨k', q', o', n', w', v', s', t', g0, g1, g2, g3, g4, g5, g6, g7, g8⟩
    · exfalso
      rw [hm] at c
      have := (pk_lEQ (a := 0) (b := memoK k o n w v s t) (by decide) m1).mp c
      omega
    · rw [c] at g7
      have hk' : k' < ls.length := by
        rcases Nat.lt_or_ge k' ls.length with c | c
        · exact c
        · rw [List.getElem?_eq_none c] at g0; cases g0
      have g9 := (pk_lEQ m1 (memo_lt (k := k') (by omega) g1 g2 g3 g4 g5 g6).1).mp g7
      obtain ⟨rfl, rfl, rfl, rfl, rfl, rfl, rfl⟩ := memo_inj b1 b2 b3 b4 b5 b6 g1 g2 g3 g4 g5 g6 g9
      rw [hq] at g0
      cases g0
      rw [g8]
  · have hT := ht k q hq
    have hT1 := hT.1
    obtain ⟨zz, hp⟩ := hx k q hq
    obtain ⟨x1, x2⟩ := hl.2.2.1 k q hq
    have q2 : qR τ 12 2 (some 60) = some (some 62) := by simp only [qR, PN hs, bnd]
    have q3 : qR τ 12 3 (some 60) = some (some 63) := by simp only [qR, PN hs, bnd]
    have l63 : ldI τ (some 63) (nI k) = some (nI q.2.1.1) := by
      rw [ldI_lo _ _ _ (by decide), A63 hs k (by omega), bnd, nI_clamp (by omega), x1]
    have mul : (240 : Int32) * nI k = nI (240 * k) := by rw [y240, pk_mul]
    have g := go_m (N := N) (B := True) (a := 62) (b := 240 * k) hT hN hs (let_S hL b1 b2 b3 b4 b5 b6) x2 (.inr ⟨rfl, by omega⟩)
    rw [hp] at g
    obtain ⟨σ1, j1, j2, j3, j4⟩ := g
    have j4 := j4 trivial
    simp only at j4
    have hs1 := j2.sh goX_f hs
    have q32' : qR σ1 12 32 (some 60) = some (some 73) := by simp only [qR, PN hs1, bnd]
    have st : stL σ1 (some 73) (Int64.toInt32 (lN z)) (lN (memoK k o n w v s t)) = some (setL σ1 73 z (lN (memoK k o n w v s t))) := by
      unfold stL
      rw [lN_i, A73 hs1 z hz, bnd, nI_clamp (by omega)]
    have hs2 : Sh (setL σ1 73 z (lN (memoK k o n w v s t))) := hs1
    have q33' : qR (setL σ1 73 z (lN (memoK k o n w v s t))) 12 33 (some 60) = some (some 74) := by simp only [qR, PN hs2, bnd]
    have e14 : mi (setL σ1 73 z (lN (memoK k o n w v s t))) 60 14 = wrun (Lof o n w v s t) q.2.2 [] false := j4
    have st2 : stI (setL σ1 73 z (lN (memoK k o n w v s t))) (some 74) (Int64.toInt32 (lN z)) (wrun (Lof o n w v s t) q.2.2 [] false) = some (setI (setL σ1 73 z (lN (memoK k o n w v s t))) 74 z (wrun (Lof o n w v s t) q.2.2 [] false)) := by
      unfold stI
      rw [lN_i, A74 hs2 z hz, bnd, nI_clamp (by omega)]
    have hs3 : Sh (setI (setL σ1 73 z (lN (memoK k o n w v s t))) 74 z (wrun (Lof o n w v s t) q.2.2 [] false)) := hs1
    have e14' : mi (setI (setL σ1 73 z (lN (memoK k o n w v s t))) 74 z (wrun (Lof o n w v s t) q.2.2 [] false)) 60 14 = wrun (Lof o n w v s t) q.2.2 [] false := by rw [mi_ne _ _ (by omega)]; exact e14
    have fr : Fr mS τ (setI (setL σ1 73 z (lN (memoK k o n w v s t))) 74 z (wrun (Lof o n w v s t) q.2.2 [] false)) := fr_I rfl (fr_L rfl (j2.mono (fun a j e => goX_m e)))
    rw [if_neg (fun e => c ((lg_cmp_eq _ _).mp e)), q2, bnd, bnd, q3, bnd, bnd, l63, bnd, d60 hs, bnd, mul, j1, bnd, q32', bnd, st, bnd, q33', bnd, mq hs2 e14, bnd, st2, bnd, mq hs3 e14', bnd]
    refine ⟨_, rfl, fr, hs3, hl.fr fr rfl rfl (fun _ => ⟨rfl, rfl⟩) ?_⟩
    intro y hy
    by_cases e : y = z
    · subst e
      right
      refine ⟨k, q, o, n, w, v, s, t, hq, b1, b2, b3, b4, b5, b6, ?_, mi_eq _ _ _ _⟩
      rw [ml_setI, ml_eq]
    · have e1 : ml (setI (setL σ1 73 z (lN (memoK k o n w v s t))) 74 z (wrun (Lof o n w v s t) q.2.2 [] false)) 73 y = ml τ 73 y := by
        rw [ml_setI, ml_ne _ _ (by omega)]; exact j2.l rfl
      have e2 : mi (setI (setL σ1 73 z (lN (memoK k o n w v s t))) 74 z (wrun (Lof o n w v s t) q.2.2 [] false)) 74 y = mi τ 74 y := by
        rw [mi_ne _ _ (by omega)]; exact j2.i rfl
      rw [e1, e2]
      exact hl.2.2.2 y hy
theorem pdM_of (hN : 300 ≤ N) {ls : List LwE} {hold : Option Nat} (h4 : ls.length ≤ 4) (hx : LX ls) (ht : ∀ (k : Nat) (q : LwE), ls[k]? = some q → txOK q.2.1) (hh : holdOK ls hold) : PdM N (JM ls hold) (qOf ls hold) := by
  refine ⟨fun τ h => h.1, fun τ τ' h f => ⟨f.sh jS_f h.1, h.2.fr f rfl rfl (fun _ => ⟨rfl, rfl⟩) (h.2.2.2.2.fr f (fun _ => ⟨rfl, rfl⟩))⟩, ?_⟩
  cases hold with
  | none => exact .inl ⟨fun τ h => h.2.2.1, fun o n w v s t _ => rfl⟩
  | some k =>
    have hk := hh k rfl
    cases e : ls[k]? with
    | none => rw [List.getElem?_eq_none_iff] at e; omega
    | some q =>
      have e2 : qOf ls (some k) = payQ q.2.2 := by unfold qOf; rw [Option.bind_some, e]
      refine .inr (fun τ h => ⟨?_, fun o n w v s t b1 b2 b3 b4 b5 b6 hL => ?_⟩)
      · have e30 : mi τ 60 30 = nI k := h.2.2.1
        rw [e30]; exact nI_m1 (by omega)
      · obtain ⟨τ', w1, w2, w3, w4⟩ := worth_m hN h4 hx ht e h.1 h.2 b1 b2 b3 b4 b5 b6 hL
        exact ⟨_, τ', w1, w2, ⟨w3, w4⟩, fun ρ => by rw [paid98_c, e2]; rfl⟩
/-- the reference before a question -/
theorem Qm_of {σ : Me} {S : Sy} (h : Sh σ) (hr : RM σ S) (hw : WS S) (hx : LX (sL S)) (h0 : pn (sQ S) ≠ 0) (hN : 9000 ≤ N) : Qm N σ S :=
  ⟨h, hr, hw, h0, pdM_of (by omega) hw.2.1 hx (fun k q e => (hw.2.2.1 k q e).1) hw.2.2.2.1, hN⟩
end MZ
