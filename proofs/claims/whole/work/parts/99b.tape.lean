/-! the class's tape -/
def aX : Nat → Nat → Bool := fun a j => a == 1 && j == 2
theorem aX_f : Sf aX := by
  have h : ∀ q ∈ rfL, aX q.1.1 q.1.2 = false := by decide +kernel
  exact h
theorem sb_and : ∀ b, b < 256 → sb b &&& (255 : Int32) = nI b := by decide +kernel
theorem sb_32 : ∀ b, b < 256 → (sb b = (32 : Int32) ↔ b = 32) := by decide +kernel
theorem sb_dig : ∀ b, b < 256 → ((sb b < (48 : Int32) ∨ (57 : Int32) < sb b) ↔ isD b = false) := by decide +kernel
theorem sb_num : ∀ b, b < 256 → isD b = true → sb b = nI b := by decide +kernel
theorem ch_c : ∀ b, b < 256 → UInt32.toInt32 (Int32.toUInt32 (nI b) % 65536) = nI b := by decide +kernel
theorem sh0 : ∀ n, n < 100 → nI n >>> ((0 : Int32) &&& 31) = nI n := by decide +kernel
theorem nI_ze {c : Nat} (h : c < 2 ^ 31) : nI c = 0 ↔ c = 0 := by rw [y0]; exact nI_eq h (by decide)
section TP
variable {N : Nat} {σ : Me} {T : Tx} {p : Nat}
theorem tq2 (h : Sh σ) (hp : mi σ 1 2 = nI p) : qI σ 10 2 (some 1) = some (nI p) := by simp only [qI, PR h, bnd, hp]
theorem tq1 (h : Sh σ) (ht : TpC σ T) : qI σ 10 1 (some 1) = some (nI T.1) := by simp only [qI, PR h, bnd, ht.1]
theorem tq0 (h : Sh σ) : qR σ 10 0 (some 1) = some (some 2) := by simp only [qR, PR h, bnd]
theorem tp2 (h : Sh σ) (x : Int32) : pI σ 10 2 (some 1) x = some (setI σ 1 2 x) := by simp only [pI, PR h, bnd]
theorem tld (h : Sh σ) (hT : txOK T) (ht : TpC σ T) (hp : p < T.1) : ldB σ (some 2) (nI p) = some (sb (T.2 p)) := by
  have h2 := hT.1
  rw [ldB_lo _ _ _ (by decide), A2 h p (by omega), bnd, nI_clamp (by omega), ht.2 p hp]
theorem TpC.at {x : Int32} (ht : TpC σ T) : TpC (setI σ 1 2 x) T := ⟨by rw [mi_ne _ _ (by omega)]; exact ht.1, fun k hk => by rw [mi_ne _ _ (by omega)]; exact ht.2 k hk⟩
theorem TpC.ax {σ' : Me} (ht : TpC σ T) (f : Fr aX σ σ') : TpC σ' T := ht.fr f rfl (fun _ => rfl)
theorem next38_c (h : Sh σ) (hT : txOK T) (ht : TpC σ T) (hp : mi σ 1 2 = nI p) (hpl : p ≤ T.1) : fc10_next_38 N (some 1) σ = some (nI (chr T p), σ) := by
  have h2 := hT.1
  unfold fc10_next_38
  rw [tq2 h hp, bnd, tq1 h ht, bnd]
  by_cases c : T.1 ≤ p
  · rw [if_pos (nI_le c (by omega)), chr_hi c]; rfl
  · rw [if_neg (nI_ge (by omega) (by omega)), tq0 h, bnd, bnd, tld h hT ht (by omega), bnd, sb_and _ (hT.2 p (by omega)).2, chr_lo (by omega)]
theorem next0_c (hT : txOK T) : ∀ (m p fu : Nat) (σ : Me), p + m = T.1 → m < fu → Sh σ → TpC σ T → mi σ 1 2 = nI p → ∃ σ' : Me, fc10_next_0 N fu (some 1) σ = some (nI (chr T (nx T p)), σ') ∧ Fr aX σ σ' ∧ mi σ' 1 2 = nI (nx T p)
  | _, _, 0, _, _, h0, _, _, _ => absurd h0 (Nat.not_lt_zero _)
  | 0, p, fu + 1, σ, hm, _, h, ht, hp => by
    have h2 := hT.1
    have c : T.1 ≤ p := by omega
    rw [nx_end c]
    refine ⟨σ, ?_, Fr.rf _ _, hp⟩
    rw [fc10_next_0, tq2 h hp, bnd, tq1 h ht, bnd, if_pos (nI_le c (by omega))]
    exact next38_c h hT ht hp (by omega)
  | m + 1, p, fu + 1, σ, hm, h0, h, ht, hp => by
    have h2 := hT.1
    have c : p < T.1 := by omega
    have hb := hT.2 p c
    have e0 : fc10_next_0 N (fu + 1) (some 1) σ = if sb (T.2 p) = (32 : Int32) then (pI σ 10 2 (some 1) (nI p + (1 : Int32))).bind fun σ32 => fc10_next_0 N fu (some 1) σ32 else fc10_next_38 N (some 1) σ := by
      rw [fc10_next_0, tq2 h hp, bnd, tq1 h ht, bnd, if_neg (nI_ge c (by omega)), tq0 h, bnd, bnd, tld h hT ht c, bnd, bnd]
    rw [e0]
    by_cases e : T.2 p = 32
    · have e1 : chr T p = 32 := by rw [chr_lo c]; exact e
      rw [if_pos ((sb_32 _ hb.2).mpr e), tp2 h, bnd, nx_step e1, nI_1]
      obtain ⟨σ', q1, q2, q3⟩ := next0_c hT m (p + 1) fu (setI σ 1 2 (nI (p + 1))) (by omega) (by omega) h ht.at (mi_eq _ _ _ _)
      exact ⟨σ', q1, (fr_I rfl (Fr.rf _ _)).tr q2, q3⟩
    · have e1 : chr T p ≠ 32 := by rw [chr_lo c]; exact e
      rw [if_neg (fun w => e ((sb_32 _ hb.2).mp w)), nx_stop e1]
      exact ⟨σ, next38_c h hT ht hp (by omega), Fr.rf _ _, hp⟩
theorem next_c (h : Sh σ) (hT : txOK T) (ht : TpC σ T) (hp : mi σ 1 2 = nI p) (hpl : p ≤ T.1) (hN : 300 ≤ N) : ∃ σ' : Me, fc10_next N 1 σ = some (nI (chr T (nx T p)), σ') ∧ Fr aX σ σ' ∧ mi σ' 1 2 = nI (nx T p) :=
  next0_c hT (T.1 - p) p N σ (by omega) (by have := hT.1; omega) h ht hp
/-- a sign is taken, or not -/
theorem take_cc (h : Sh σ) (hT : txOK T) (ht : TpC σ T) (hp : mi σ 1 2 = nI p) (hpl : p ≤ T.1) (hN : 300 ≤ N) {c : Nat} (hc : c < 256) : (chr T (nx T p) = c → ∃ σ' : Me, fc10_take N 1 (nI c) σ = some (1, σ') ∧ Fr aX σ σ' ∧ mi σ' 1 2 = nI (nx T p + 1)) ∧ (chr T (nx T p) ≠ c → ∃ σ' : Me, fc10_take N 1 (nI c) σ = some (0, σ') ∧ Fr aX σ σ' ∧ mi σ' 1 2 = nI (nx T p)) := by
  have h2 := hT.1
  obtain ⟨σ1, q1, q2, q3⟩ := next_c (N := N) h hT ht hp hpl hN
  have h1 := q2.sh aX_f h
  have hb := chr_lt hT (nx T p)
  have e0 : fc10_take N 1 (nI c) σ = if nI (chr T (nx T p)) = nI c then (qI σ1 10 2 (some 1)).bind fun v12 => (pI σ1 10 2 (some 1) (v12 + (1 : Int32))).bind fun σ17 => retZ (1 : Int32) σ17 else retZ (0 : Int32) σ1 := by
    rw [fc10_take, (PR h).1, bnd, q1, bnd]
  rw [e0]
  refine ⟨fun e => ?_, fun e => ?_⟩
  · rw [if_pos (by rw [e]), tq2 h1 q3, bnd, tp2 h1, bnd, nI_1, retZ1]
    exact ⟨_, rfl, fr_I rfl q2, mi_eq _ _ _ _⟩
  · rw [if_neg (fun w => e ((nI_eq (by omega) (by omega)).mp w)), retZ0]
    exact ⟨_, rfl, q2, q3⟩
theorem signAt_c (h : Sh σ) (hT : txOK T) (ht : TpC σ T) (hpl : p ≤ T.1) : fc10_signAt N 1 (nI p) σ = some (nI (chr T p), σ) := by
  have h2 := hT.1
  unfold fc10_signAt
  rw [if_neg (nI_pos (by omega)), tq1 h ht, bnd]
  by_cases c : T.1 ≤ p
  · rw [if_pos (nI_le c (by omega)), chr_hi c]; rfl
  · rw [if_neg (nI_ge (by omega) (by omega)), tq0 h, bnd, tld h hT ht (by omega), bnd, sb_and _ (hT.2 p (by omega)).2, chr_lo (by omega)]
theorem isDig_c {c : Nat} (hc : c < 256) : fc10_isDigit N (nI c) σ = some (if isD c = true then 1 else 0, σ) := by
  unfold fc10_isDigit
  by_cases c1 : c < 48
  · have e : isD c = false := by simp [isD]; omega
    rw [if_pos (by rw [y48]; exact nI_lt c1 (by decide)), e, retZ0]; rfl
  · rw [if_neg (by rw [y48]; exact nI_nlt (by omega) (by omega))]
    by_cases c2 : 57 < c
    · have e : isD c = false := by simp [isD]; omega
      rw [if_pos (by rw [y57]; exact nI_lt c2 (by omega)), e, retZ0]; rfl
    · have e : isD c = true := by simp [isD]; omega
      rw [if_neg (by rw [y57]; exact nI_nlt (by omega) (by decide)), e, retZ1]; rfl
theorem num68_c (h : Sh σ) (hT : txOK T) (ht : TpC σ T) (hp : mi σ 1 2 = nI p) (hpl : p ≤ T.1) (v : Int32) : fc10_number_68 N (some 1) v σ = some (if isD (chr T p) = true then -1 else v, σ) := by
  unfold fc10_number_68
  rw [tq2 h hp, bnd, (PR h).1, bnd, signAt_c h hT ht hpl, bnd, isDig_c (chr_lt hT p), bnd]
  by_cases e : isD (chr T p) = true
  · simp only [e, if_true]; rw [if_neg (show ¬ (1 : Int32) = 0 by decide)]
  · simp only [e, if_false]; rfl
theorem nI_dig {v c : Nat} (hv : v < 100000) (hc : 48 ≤ c) (hc2 : c < 256) : (((10 : Int32) * nI v) + nI c) - (48 : Int32) = nI (10 * v + (c - 48)) := by
  rw [y10, pk_mul, nI_add, zl_of (x := (48 : Int32)) (k := 48) rfl, pk_sub (by omega)]
  congr 1
  omega
theorem num16_c (hT : txOK T) {M : Nat} (hM : M ≤ 4) : ∀ (m k p v fu : Nat) (σ : Me), k + m = M → m < fu → v < 10 ^ k → p ≤ T.1 → Sh σ → TpC σ T → mi σ 1 2 = nI p → ∃ σ' : Me, fc10_number_16 N fu (some 1) (nI M) (nI v) (nI k) σ = some (if isD (chr T (dgN T m p v).1) = true then -1 else nI (dgN T m p v).2, σ') ∧ Fr aX σ σ' ∧ mi σ' 1 2 = nI (dgN T m p v).1
  | _, _, _, _, 0, _, _, h0, _, _, _, _, _ => absurd h0 (Nat.not_lt_zero _)
  | 0, k, p, v, fu + 1, σ, hm, _, hv, hpl, h, ht, hp => by
    refine ⟨σ, ?_, Fr.rf _ _, hp⟩
    rw [fc10_number_16, if_pos (nI_le (by omega) (by omega))]
    exact num68_c h hT ht hp hpl _
  | m + 1, k, p, v, fu + 1, σ, hm, h0, hv, hpl, h, ht, hp => by
    have hcl := chr_lt hT p
    have hv4 : v < 10000 := Nat.lt_of_lt_of_le hv (Nat.le_trans (Nat.pow_le_pow_right (by decide) (show k ≤ 4 by omega)) (by decide))
    have e0 : fc10_number_16 N (fu + 1) (some 1) (nI M) (nI v) (nI k) σ = if (if isD (chr T p) = true then (1 : Int32) else 0) = 0 then fc10_number_68 N (some 1) (nI v) σ else (pI σ 10 2 (some 1) (nI p + (1 : Int32))).bind fun σ59 => fc10_number_16 N fu (some 1) (nI M) ((((10 : Int32) * nI v) + nI (chr T p)) - (48 : Int32)) (nI k + (1 : Int32)) σ59 := by
      rw [fc10_number_16, if_neg (nI_ge (by omega) (by omega)), tq2 h hp, bnd, (PR h).1, bnd, signAt_c h hT ht hpl, bnd, isDig_c hcl, bnd]
      simp only [tq2 h hp, bnd, (PR h).1, signAt_c h hT ht hpl]
    rw [e0]
    unfold dgN
    by_cases e : isD (chr T p) = true
    · have hd := isD_le e
      have hpp : p < T.1 := chr_in (by omega)
      simp only [e, if_true]
      rw [if_neg (show ¬ (1 : Int32) = 0 by decide), tp2 h, bnd, nI_1, nI_1, nI_dig (by omega) hd.1 hcl]
      obtain ⟨σ', q1, q2, q3⟩ := num16_c hT hM m (k + 1) (p + 1) (10 * v + (chr T p - 48)) fu (setI σ 1 2 (nI (p + 1))) (by omega) (by omega) (by rw [Nat.pow_succ]; omega) (by omega) h ht.at (mi_eq _ _ _ _)
      exact ⟨σ', q1, (fr_I rfl (Fr.rf _ _)).tr q2, q3⟩
    · have e' : isD (chr T p) = false := by simpa using e
      simp only [e', Bool.false_eq_true, if_false]
      rw [if_pos trivial, num68_c h hT ht hp hpl, e']
      exact ⟨σ, rfl, Fr.rf _ _, hp⟩
theorem number_c (h : Sh σ) (hT : txOK T) (ht : TpC σ T) (hp : mi σ 1 2 = nI p) (hpl : p ≤ T.1) (hN : 300 ≤ N) {M : Nat} (hM : M ≤ 4) : ∃ σ' : Me, fc10_number N 1 (nI M) σ = some (if isD (chr T (nx T p)) = true then (if isD (chr T (dgN T M (nx T p) 0).1) = true then -1 else nI (dgN T M (nx T p) 0).2) else -1, σ') ∧ Fr aX σ σ' ∧ mi σ' 1 2 = nI (if isD (chr T (nx T p)) = true then (dgN T M (nx T p) 0).1 else nx T p) := by
  obtain ⟨σ1, q1, q2, q3⟩ := next_c (N := N) h hT ht hp hpl hN
  have h1 := q2.sh aX_f h
  unfold fc10_number
  rw [(PR h).1, bnd, q1, bnd, isDig_c (chr_lt hT _), bnd]
  by_cases e : isD (chr T (nx T p)) = true
  · simp only [e, if_true]
    rw [if_neg (show ¬ (1 : Int32) = 0 by decide)]
    obtain ⟨σ', r1, r2, r3⟩ := num16_c (N := N) hT hM M 0 (nx T p) 0 N σ1 (by omega) (by omega) (by decide) (nx_le hpl) h1 (ht.ax q2) q3
    exact ⟨σ', r1, q2.tr r2, r3⟩
  · have e' : isD (chr T (nx T p)) = false := by simpa using e
    simp only [e', Bool.false_eq_true, if_false]
    rw [if_pos trivial]
    exact ⟨σ1, rfl, q2, q3⟩
/-! a letter's place in a word -/
def ixL (x : Int32) : List Int32 → Nat → Int32
  | [], _ => -1
  | b :: bs, k => if b = x then nI k else ixL x bs (k + 1)
theorem ix7 {s n : Nat} {x : Int32} (hn : n < 100) : ∀ (L : List Int32) (k fu : Nat), k + L.length = n → L.length < fu → (∀ (j : Nat) (b : Int32), L[j]? = some b → ldB σ (some s) (nI (k + j)) = some b) → fSl_indexOfChar_7 N fu (some s) (nI n) x (nI k) σ = some (ixL x L k, σ)
  | _, _, 0, _, h0, _ => absurd h0 (Nat.not_lt_zero _)
  | [], k, fu + 1, hk, _, _ => by
    simp only [List.length_nil] at hk
    rw [fSl_indexOfChar_7, if_pos (nI_le (by omega) (by omega))]; rfl
  | b :: bs, k, fu + 1, hk, h0, hb => by
    simp only [List.length_cons] at hk h0
    have e := hb 0 b rfl
    rw [Nat.add_zero] at e
    rw [fSl_indexOfChar_7, if_neg (nI_ge (by omega) (by omega)), e, bnd]
    unfold ixL
    by_cases c : b = x
    · rw [if_pos c, if_pos c]
    · rw [if_neg c, if_neg c, nI_1]
      exact ix7 hn bs (k + 1) fu (by omega) (by omega) (fun j b' e' => by
        have := hb (j + 1) b' (by rw [List.getElem?_cons_succ]; exact e')
        rw [show k + 1 + j = k + (j + 1) by omega]; exact this)
theorem ixS {a n : Nat} {L : List Int32} (ha : 1000020 ≤ a ∧ a < 1000029) (hl : kLn.getD (a + 20 - 1000040) 0 = n) (hb : kBy.getD (a + 20 - 1000040) [] = L) (hL : L.length = n) (h0 : 0 < n) (hn : n < 100) (hN : 300 ≤ N) {c : Nat} (hc : c < 256) : fSr_indexOf N a (UInt32.toInt32 (Int32.toUInt32 (nI c) % 65536)) σ = some (ixL (sb c) L 0, σ) := by
  have d : drS (some a) = some a := if_pos ha
  have v : sVl (some a) = some (some (a + 20)) := by unfold sVl; rw [d, bnd]
  have l : aLn σ .byte (some (a + 20)) = some (nI n) := by
    unfold aLn
    dsimp only
    rw [if_neg (by omega), if_neg (fun w => by cases w.1), if_pos ⟨rfl, by omega⟩, hl]
  have lat : fSr_isLatin1 N a σ = some (1, σ) := by
    unfold fSr_isLatin1 sCd
    rw [if_neg (by decide), d, bnd, bnd, if_pos rfl, retZ1]
  have len : fSr_length N a σ = some (nI n, σ) := by
    have cd : fSr_coder N a σ = some (0, σ) := by
      unfold fSr_coder sCd
      rw [if_neg (by decide), d, bnd, bnd]; rfl
    unfold fSr_length
    rw [v, bnd, l, bnd, d, bnd, cd, bnd]
    show some (nI n >>> ((0 : Int32) &&& 31), σ) = _
    rw [sh0 n hn]
  have ld : ∀ (j : Nat) (b : Int32), L[j]? = some b → ldB σ (some (a + 20)) (nI (0 + j)) = some b := fun j b e => by
    have hj : j < n := by
      rcases Nat.lt_or_ge j L.length with q | q
      · omega
      · rw [List.getElem?_eq_none q] at e; cases e
    rw [Nat.zero_add]
    show (if a + 20 < 1000000 then _ else sldB (a + 20) (nI j)) = _
    rw [if_neg (by omega)]
    unfold sldB
    rw [nI_clamp (by omega), hl, if_pos ⟨by omega, nI_pos (by omega), hj⟩, hb, List.getD_eq_getElem?_getD, e]
    rfl
  have enc1 : fSl_canEncode N (nI c) σ = some (1, σ) := by
    unfold fSl_canEncode
    rw [if_neg (nI_pos (by omega)), y255, if_neg (nI_nlt (by omega) (by decide)), retZ1]
  unfold fSr_indexOf fSr_indexOf2
  rw [ch_c c hc, d, bnd, d, bnd, lat, bnd, if_neg (show ¬ (1 : Int32) = 0 by decide), v, bnd, bnd, len, bnd]
  unfold fSl_indexOf
  rw [enc1, bnd, if_neg (show ¬ (1 : Int32) = 0 by decide)]
  have m1 : fMt_max N (0 : Int32) (0 : Int32) σ = some (nI 0, σ) := by
    rw [y0]; exact max_N N σ (by decide) (by decide)
  rw [m1, bnd, l, bnd, min_N N σ (by omega) (by omega), bnd, Nat.min_self, if_pos (nI_lt h0 (by omega))]
  unfold fSl_indexOfChar
  rw [show nI 0 = nI 0 from rfl, ix7 (x := Int8.toInt32 (Int32.toInt8 (nI c))) hn L 0 N (by omega) (by omega) ld, bnd, bnd]
  rfl
end TP
