/-! the reference reads a plain -/
def kcI (b : Bool) : Nat := if b = true then 115 else 102
def toI (b : Bool) : Nat := if b = true then 66 else 68
def stI_ (b : Bool) : Nat := if b = true then 1000026 else 1000027
def cntB (M : Nat) : Nat := M % 2 + M / 2 % 2 + M / 4 % 2 + M / 8 % 2 + M / 16 % 2
theorem cntB_le : ∀ b : Bool, ∀ M, M < 2 ^ itC b → cntB M ≤ itC b ∧ M < 32 := by decide +kernel
theorem cntB_up : ∀ b : Bool, ∀ M, M < 2 ^ itC b → ∀ i, i < itC b → M / 2 ^ i % 2 = 0 → cntB (M ||| 2 ^ i) = cntB M + 1 ∧ M ||| 2 ^ i < 2 ^ itC b := by decide +kernel
def miX (b : Bool) (R : Nat) : Nat → Nat → Bool := fun a j => (a == 60 && (j == 10 || j == 11 || j == 12)) || (a == toI b && (decide (R ≤ j) && decide (j < R + itC b)))
theorem miX_f (b : Bool) (R : Nat) : Sf (miX b R) := by
  have h : ∀ q ∈ rfL, paX q.1.1 q.1.2 = false ∧ q.1.1 ≠ 66 ∧ q.1.1 ≠ 68 := by decide +kernel
  intro q hq
  obtain ⟨h1, h2, h3⟩ := h q hq
  have h4 : (q.1.1 == toI b) = false := by
    cases b
    · exact beq_eq_false_iff_ne.mpr h3
    · exact beq_eq_false_iff_ne.mpr h2
  show (paX q.1.1 q.1.2 || (q.1.1 == toI b && _)) = false
  rw [h1, h4]; rfl
theorem Fr.pm {b : Bool} {R : Nat} {σ σ' : Me} (h : Fr paX σ σ') : Fr (miX b R) σ σ' := h.mono (fun a j e => by
  simp only [miX, Bool.or_eq_false_iff] at e
  exact e.1)
theorem Cx.mi {B : Prop} {L : Nat → Int32} {a b : Nat} {T : Tx} {σ σ' : Me} {c : Bool} {R : Nat} (h : Cx B L a b T σ) (f : Fr (miX c R) σ σ') : Cx B L a b T σ' := h.gen f (miX_f c R) (by cases c <;> exact ⟨rfl, rfl, rfl⟩) (fun _ => by cases c <;> exact ⟨rfl, rfl, rfl⟩)
section MQ2
variable {N : Nat} {B : Prop} {L : Nat → Int32} {a b : Nat} {T : Tx} {σ : Me} {p g : Nat} {c : Bool}
theorem num67_m (h : Ps B L a b T σ p g) (hT : txOK T) {lo hi x : Nat} (hlo : lo < 1000) (hhi : hi < 1000) (hx : x < 1000) (hp1 : 1 ≤ p) :
    (isD (chr T p) = true → ∃ σ' : Me, fc12_number_67 N (some 60) (nI lo) (nI hi) (nI x) σ = some (0, σ') ∧ Fr paX σ σ' ∧ mi σ' 60 11 = nI p) ∧
    (isD (chr T p) ≠ true → (x < lo ∨ hi < x) → ∃ σ' : Me, fc12_number_67 N (some 60) (nI lo) (nI hi) (nI x) σ = some (nI x, σ') ∧ Fr paX σ σ' ∧ mi σ' 60 11 = nI (p - 1)) ∧
    (isD (chr T p) ≠ true → ¬ (x < lo ∨ hi < x) → fc12_number_67 N (some 60) (nI lo) (nI hi) (nI x) σ = some (nI x, σ)) := by
  rw [fc12_number_67, d60 h.1.1, bnd, isDigit_m h.1 hT h.2.1 h.2.2.2.2, bnd]
  have e1 : (Int32.toInt64 (nI lo)).toInt = lo := by rw [Int32.toInt_toInt64, nI_toInt (by omega)]
  have e2 : (Int32.toInt64 (nI hi)).toInt = hi := by rw [Int32.toInt_toInt64, nI_toInt (by omega)]
  refine ⟨fun e => ?_, fun e w => ?_, fun e w => ?_⟩
  · rw [if_pos e, if_neg one_z, d60 h.1.1, bnd, (fails_m (N := N) h).1, bnd]
    exact ⟨_, rfl, (fails_m (N := N) h).2⟩
  · have P1 : Ps B L a b T (setI σ 60 10 (nI (p - 1))) (p - 1) g := by
      have f : Fr paX σ (setI σ 60 10 (nI (p - 1))) := fr_I rfl (Fr.rf _ _)
      exact ⟨h.1.fr f, mi_eq _ _ _ _, by rw [mi_ne _ _ (by omega)]; exact h.2.2.1, by rw [mi_ne _ _ (by omega)]; exact h.2.2.2.1, by have := h.2.2.2.2; omega⟩
    rw [if_neg e, if_pos rfl, isIn_m, e1, e2, nI_toInt (by omega), if_neg (by omega), bnd, if_pos rfl, mq h.1.1 h.2.1, bnd, y1, pk_sub hp1, mp h.1.1, bnd, d60 P1.1.1, bnd, (fails_m (N := N) P1).1, bnd]
    exact ⟨_, rfl, fr_I rfl (fr_I rfl (Fr.rf _ _)), mi_eq _ _ _ _⟩
  · rw [if_neg e, if_pos rfl, isIn_m, e1, e2, nI_toInt (by omega), if_pos (by omega), bnd, if_neg one_z]
theorem number_m (h : Ps B L a b T σ p g) (hT : txOK T) (hN : 300 ≤ N) {lo hi : Nat} (hlo : lo < 1000) (hhi : hi < 1000) :
    (isD (chr T (nx T p)) ≠ true → ∃ (x : Int32) (σ' : Me), fc12_number N 60 (nI lo) (nI hi) σ = some (x, σ') ∧ Fr paX σ σ' ∧ mi σ' 60 11 = nI (nx T p)) ∧
    (isD (chr T (nx T p)) = true → isD (chr T (dgN T 2 (nx T p) 0).1) = true → ∃ (x : Int32) (σ' : Me), fc12_number N 60 (nI lo) (nI hi) σ = some (x, σ') ∧ Fr paX σ σ' ∧ mi σ' 60 11 = nI (dgN T 2 (nx T p) 0).1) ∧
    (isD (chr T (nx T p)) = true → isD (chr T (dgN T 2 (nx T p) 0).1) ≠ true → ((dgN T 2 (nx T p) 0).2 < lo ∨ hi < (dgN T 2 (nx T p) 0).2) → ∃ (x : Int32) (σ' : Me), fc12_number N 60 (nI lo) (nI hi) σ = some (x, σ') ∧ Fr paX σ σ' ∧ mi σ' 60 11 = nI ((dgN T 2 (nx T p) 0).1 - 1)) ∧
    (isD (chr T (nx T p)) = true → isD (chr T (dgN T 2 (nx T p) 0).1) ≠ true → ¬ ((dgN T 2 (nx T p) 0).2 < lo ∨ hi < (dgN T 2 (nx T p) 0).2) → ∃ σ' : Me, fc12_number N 60 (nI lo) (nI hi) σ = some (nI (dgN T 2 (nx T p) 0).2, σ') ∧ Fr paX σ σ' ∧ Ps B L a b T σ' (dgN T 2 (nx T p) 0).1 g) := by
  obtain ⟨σ1, q1, q2, q3⟩ := look_m (N := N) h hT hN
  have hb := chr_lt hT (nx T p)
  have e0 : fc12_number N 60 (nI lo) (nI hi) σ = if (if isD (chr T (nx T p)) = true then (1 : Int32) else 0) = 0 then (fc12_fails N 60 σ1).bind fun p13 => some ((0 : Int32), p13.2) else (qI σ1 12 10 (some 60)).bind fun v27 => (pI σ1 12 10 (some 60) (v27 + (1 : Int32))).bind fun σ32 => (dr σ32 (some 60) (.inl 12)).bind fun a => (fc12_isDigit N a σ32).bind fun p36 => if p36.1 = 0 then fc12_number_67 N (some 60) (nI lo) (nI hi) (lk (chr T (nx T p)) - (48 : Int32)) p36.2 else (dr p36.2 (some 60) (.inl 12)).bind fun a => (fc12_here N a p36.2).bind fun p48 => (qI p48.2 12 10 (some 60)).bind fun v59 => (pI p48.2 12 10 (some 60) (v59 + (1 : Int32))).bind fun σ64 => fc12_number_67 N (some 60) (nI lo) (nI hi) ((((10 : Int32) * (lk (chr T (nx T p)) - (48 : Int32))) + p48.1) - (48 : Int32)) σ64 := by
    rw [fc12_number, d60 h.1.1, bnd, q1, bnd, d60 q3.1.1, bnd, isDigit_m q3.1 hT q3.2.1 q3.2.2.2.2, bnd, d60 q3.1.1, bnd]
  rw [e0]
  by_cases c1 : isD (chr T (nx T p)) = true
  · have hd := isD_le c1
    obtain ⟨s1, s2, s3, s4⟩ := q3.step (chr_in (by omega))
    have el : lk (chr T (nx T p)) - (48 : Int32) = nI (chr T (nx T p) - 48) := by
      unfold lk
      rw [if_neg (by omega), y48, pk_sub (by omega)]
    have hb2 := chr_lt hT (nx T p + 1)
    simp only [c1, if_true]
    rw [if_neg one_z, s1, bnd, s2, bnd, d60 s4.1.1, bnd, isDigit_m s4.1 hT s4.2.1 s4.2.2.2.2, bnd, el]
    refine ⟨fun w => absurd rfl w, ?_⟩
    by_cases c2 : isD (chr T (nx T p + 1)) = true
    · have hd2 := isD_le c2
      have hlt2 : nx T p + 1 < T.1 := chr_in (by omega)
      obtain ⟨u1, u2, u3, u4⟩ := s4.step hlt2
      have hh : fc12_here N 60 (setI σ1 60 10 (nI (nx T p + 1))) = some (nI (chr T (nx T p + 1)), setI σ1 60 10 (nI (nx T p + 1))) := by
        have := look43_m (N := N) s4.1 hT s4.2.1 s4.2.2.2.2
        have e : fc12_here N 60 (setI σ1 60 10 (nI (nx T p + 1))) = fc12_look_43 N (some 60) (setI σ1 60 10 (nI (nx T p + 1))) := rfl
        rw [e, this]
        unfold lk
        rw [if_neg (by omega)]
      have ed : dgN T 2 (nx T p) 0 = (nx T p + 1 + 1, 10 * (chr T (nx T p) - 48) + (chr T (nx T p + 1) - 48)) := by
        simp only [dgN, c1, c2, if_true]
        rw [Nat.mul_zero, Nat.zero_add]
      rw [ed]
      have en : (((10 : Int32) * nI (chr T (nx T p) - 48)) + nI (chr T (nx T p + 1))) - (48 : Int32) = nI (10 * (chr T (nx T p) - 48) + (chr T (nx T p + 1) - 48)) := nI_dig (by omega) hd2.1 hb2
      simp only [c2, if_true]
      rw [if_neg one_z, d60 s4.1.1, bnd, hh, bnd, u1, bnd, u2, bnd, en]
      obtain ⟨n1, n2, n3⟩ := num67_m (N := N) u4 hT hlo hhi (x := 10 * (chr T (nx T p) - 48) + (chr T (nx T p + 1) - 48)) (by omega) (by omega)
      refine ⟨fun _ w => ?_, fun _ w1 w2 => ?_, fun _ w1 w2 => ?_⟩
      · obtain ⟨σ', m1, m2, m3⟩ := n1 w
        exact ⟨_, σ', m1, (q2.tr s3).tr (u3.tr m2), m3⟩
      · obtain ⟨σ', m1, m2, m3⟩ := n2 w1 w2
        exact ⟨_, σ', m1, (q2.tr s3).tr (u3.tr m2), m3⟩
      · exact ⟨_, n3 w1 w2, (q2.tr s3).tr u3, u4⟩
    · have c2' : isD (chr T (nx T p + 1)) = false := by simpa using c2
      have ed : dgN T 2 (nx T p) 0 = (nx T p + 1, chr T (nx T p) - 48) := by
        simp only [dgN, c1, c2', if_true, Bool.false_eq_true, if_false]
        rw [Nat.mul_zero, Nat.zero_add]
      rw [ed]
      simp only [c2', Bool.false_eq_true, if_false, ne_eq, not_false_eq_true]
      rw [if_pos trivial]
      obtain ⟨n1, n2, n3⟩ := num67_m (N := N) s4 hT hlo hhi (x := chr T (nx T p) - 48) (by omega) (by omega)
      refine ⟨fun _ w => w.elim, fun _ w1 w2 => ?_, fun _ w1 w2 => ?_⟩
      · obtain ⟨σ', m1, m2, m3⟩ := n2 c2 w2
        exact ⟨_, σ', m1, (q2.tr s3).tr m2, m3⟩
      · exact ⟨_, n3 c2 w2, q2.tr s3, s4⟩
  · rw [if_neg c1, if_pos rfl, (fails_m (N := N) q3).1, bnd]
    exact ⟨fun _ => ⟨_, _, rfl, q2.tr (fails_m (N := N) q3).2.1, (fails_m (N := N) q3).2.2⟩, fun w => absurd w c1, fun w => absurd w c1, fun w => absurd w c1⟩
def ParJ (B : Prop) (L : Nat → Int32) (a b : Nat) (T : Tx) (σ : Me) (g : Nat) (c : Bool) (R : Nat) (x : PI) (o : Option (Unit × Me)) : Prop := match x with
  | .inl f => ∃ σ' : Me, o = some ((), σ') ∧ Fr (miX c R) σ σ' ∧ mi σ' 60 11 = nI f
  | .inr z => ∃ σ' : Me, o = some ((), σ') ∧ Fr (miX c R) σ σ' ∧ Ps B L a b T σ' z.1 g ∧ ∀ k, k < itC c → mi σ' (toI c) (R + k) = nI (z.2 k)
theorem pItL_nx (T : Tx) (c : Bool) (m p M : Nat) (v : Nat → Nat) : pItL T c (m + 1) p M v = pItL T c (m + 1) (nx T p) M v := by
  unfold pItL
  rw [nx_nx]
theorem st_to (h : Sh σ) {R i : Nat} (hi : R + i < (if c = true then 3 else 30)) (x : Int32) : stI σ (some (toI c)) (nI R + nI i) x = some (setI σ (toI c) (R + i) x) := by
  rw [nI_add]
  unfold stI
  cases c
  · have hi : R + i < 30 := hi
    show (arr σ .int (some 68) _).bind _ = _
    rw [A68 h _ hi, bnd, nI_clamp (by omega)]
    rfl
  · have hi : R + i < 3 := hi
    show (arr σ .int (some 66) _).bind _ = _
    rw [A66 h _ hi, bnd, nI_clamp (by omega)]
    rfl
theorem sp_i {x : Nat} (hx : x < 256) (hN : 300 ≤ N) : fc12_spotOf N (some (stI_ c)) (lk x) σ = some (if itI c x = 0 then -1 else nI (itI c x - 1), σ) := by
  cases c
  · show fc12_spotOf N (some 1000027) (lk x) σ = _
    rw [spot_m w_o rfl (by decide) hN, ix_fm x hx]
  · show fc12_spotOf N (some 1000026) (lk x) σ = _
    rw [spot_m w_i rfl (by decide) hN, ix_im x hx]
theorem leastOf_m {i : Nat} (hi : i < itC c) : fc12_leastOf N (nI (kcI c)) (nI i) σ = some (nI (lsI c i), σ) := by
  have h5 := itC_le c
  have : i = 0 ∨ i = 1 ∨ i = 2 ∨ i = 3 ∨ i = 4 := by omega
  cases c
  · rcases this with rfl | rfl | rfl | rfl | rfl <;> rfl
  · rcases this with rfl | rfl | rfl | rfl | rfl <;> rfl
theorem mostOf_m {i : Nat} (hi : i < itC c) : fc12_mostOf N (nI (kcI c)) (nI i) σ = some (nI (msI c i), σ) := by
  have h5 := itC_le c
  have : i = 0 ∨ i = 1 ∨ i = 2 ∨ i = 3 ∨ i = 4 := by omega
  cases c
  · rcases this with rfl | rfl | rfl | rfl | rfl <;> rfl
  · rcases this with rfl | rfl | rfl | rfl | rfl <;> rfl
theorem usual_m {i : Nat} (hi : i < itC c) : fc12_usual N (nI (kcI c)) (nI i) σ = some (nI (usI c i), σ) := by
  have h5 := itC_le c
  have : i = 0 ∨ i = 1 ∨ i = 2 ∨ i = 3 ∨ i = 4 := by omega
  cases c
  · rcases this with rfl | rfl | rfl | rfl | rfl <;> rfl
  · rcases this with rfl | rfl | rfl | rfl | rfl <;> rfl
theorem Ps.to (h : Ps B L a b T σ p g) {R i : Nat} (hi : i < itC c) (x : Int32) : Fr (miX c R) σ (setI σ (toI c) (R + i) x) ∧ Ps B L a b T (setI σ (toI c) (R + i) x) p g := by
  have ne : toI c ≠ 60 := by cases c <;> decide
  have f : Fr (miX c R) σ (setI σ (toI c) (R + i) x) := fr_I (by simp [miX]; omega) (Fr.rf _ _)
  exact ⟨f, h.1.mi f, by rw [mi_ne _ _ (by omega)]; exact h.2.1, by rw [mi_ne _ _ (by omega)]; exact h.2.2.1, by rw [mi_ne _ _ (by omega)]; exact h.2.2.2.1, h.2.2.2.2⟩
theorem it45_m (hT : txOK T) (hN : 300 ≤ N) {R : Nat} (hR : R + itC c ≤ (if c = true then 3 else 30)) {σ0 : Me} : ∀ (m k q M fu : Nat) (v : Nat → Nat) (σ : Me), k + m = itC c + 1 → m + 1 < fu → M < 2 ^ itC c → cntB M = k → nx T q = q → Ps B L a b T σ q g → (∀ j, j < itC c → mi σ (toI c) (R + j) = nI (v j)) → Fr (miX c R) σ0 σ → ParJ B L a b T σ0 g c R (pItL T c m q M v) (fc12_readItems_45 N fu (some 60) (nI (kcI c)) (some (toI c)) (nI R) (some (stI_ c)) (nI M) (if itI c (chr T q) = 0 then -1 else nI (itI c (chr T q) - 1)) σ)
  | _, _, _, _, 0, _, _, _, h0, _, _, _, _, _, _ => absurd h0 (Nat.not_lt_zero _)
  | 0, k, q, M, fu + 1, v, σ, hk, _, hM, hc, _, _, _, _ => by
    have := (cntB_le c M hM).1
    omega
  | m + 1, k, q, M, fu + 1, v, σ, hk, h0, hM, hc, hn, h, hv, f => by
    have h5 := itC_le c
    have h240 := hT.1
    have hM32 := (cntB_le c M hM).2
    have ne60 : toI c ≠ 60 := by cases c <;> decide
    unfold pItL
    rw [hn]
    by_cases c0 : itI c (chr T q) = 0
    · rw [if_pos c0, if_pos c0, fc12_readItems_45, if_pos rfl]
      exact ⟨σ, rfl, f, h, hv⟩
    · have hle := itI_le c (chr T q)
      have hlt : q < T.1 := chr_in (fun w => c0 (by rw [w]; cases c <;> rfl))
      rw [if_neg c0, if_neg c0]
      generalize hi : itI c (chr T q) - 1 = i
      have hiN : i < itC c := by omega
      have eb : bt M i = M / 2 ^ i % 2 := rfl
      rw [fc12_readItems_45, if_neg (nI_m1 (by omega)), mq h.1.1 h.2.2.1, bnd, if_pos rfl, has_m N (by omega) (by omega), bnd, eb]
      by_cases c1 : M / 2 ^ i % 2 = 1
      · rw [if_pos c1, c1, if_neg (show ¬ nI 1 = 0 by decide), d60 h.1.1, bnd, (fails_m (N := N) h).1, bnd]
        exact ⟨_, rfl, f.tr (fails_m (N := N) h).2.1.pm, (fails_m (N := N) h).2.2⟩
      · have c1' : M / 2 ^ i % 2 = 0 := by omega
        obtain ⟨u1, u2⟩ := cntB_up c M hM i hiN c1'
        obtain ⟨s1, s2, s3, s4⟩ := h.step hlt
        have hms := msI_le c i
        obtain ⟨n1, n2, n3, n4⟩ := number_m (N := N) s4 hT hN (lo := lsI c i) (hi := msI c i) (by omega) (by omega)
        have hg2 := nx_ge T (q + 1)
        rw [if_neg c1, c1', if_pos (show nI 0 = 0 from rfl), s1, bnd, s2, bnd, leastOf_m hiN, bnd, mostOf_m hiN, bnd, d60 s4.1.1, bnd]
        have bad : ∀ (x : Int32) (σ3 : Me) (f3 : Nat), fc12_number N 60 (nI (lsI c i)) (nI (msI c i)) (setI σ 60 10 (nI (q + 1))) = some (x, σ3) → Fr paX (setI σ 60 10 (nI (q + 1))) σ3 → mi σ3 60 11 = nI f3 → f3 ≤ T.1 → ParJ B L a b T σ0 g c R (.inl f3) ((fc12_number N 60 (nI (lsI c i)) (nI (msI c i)) (setI σ 60 10 (nI (q + 1)))).bind fun p112 => (stI p112.2 (some (toI c)) (nI R + nI i) p112.1).bind fun σ115 => (qI σ115 12 11 (some 60)).bind fun v117 => if v117 = (-1 : Int32) then (dr σ115 (some 60) (.inl 12)).bind fun a => (fc12_look N a σ115).bind fun p127 => (fc12_spotOf N (some (stI_ c)) p127.1 p127.2).bind fun p130 => fc12_readItems_45 N fu (some 60) (nI (kcI c)) (some (toI c)) (nI R) (some (stI_ c)) (nI M ||| ((1 : Int32) <<< (nI i &&& 31))) p130.1 p130.2 else fc12_readItems_45 N fu (some 60) (nI (kcI c)) (some (toI c)) (nI R) (some (stI_ c)) (nI M ||| ((1 : Int32) <<< (nI i &&& 31))) (nI i) σ115) := by
          intro x σ3 f3 hx f4 e11 hf3
          have hs3 := (s4.1.fr f4).1
          have hs4 : Sh (setI σ3 (toI c) (R + i) x) := hs3
          have e11' : mi (setI σ3 (toI c) (R + i) x) 60 11 = nI f3 := by rw [mi_ne _ _ (by omega)]; exact e11
          obtain ⟨fu', rfl⟩ : ∃ fu', fu = fu' + 1 := ⟨fu - 1, by omega⟩
          rw [hx, bnd, st_to hs3 (by omega), bnd, mq hs4 e11', bnd, if_neg (nI_m1 (by omega)), fc12_readItems_45, if_neg (nI_m1 (by omega)), mq hs4 e11', bnd, if_neg (nI_m1 (by omega))]
          exact ⟨_, rfl, fr_I (by simp [miX]; omega) (f.tr (s3.tr f4).pm), e11'⟩
        by_cases c2 : isD (chr T (nx T (q + 1))) = true
        · have hd := isD_le c2
          have hlt2 : nx T (q + 1) < T.1 := chr_in (by omega)
          have hr1 := dgN_le T 2 (nx T (q + 1)) 0 (by omega)
          have hr2 := dg2_gt c2
          have n2 := n2 c2
          have n3 := n3 c2
          have n4 := n4 c2
          rw [if_pos c2]
          generalize dgN T 2 (nx T (q + 1)) 0 = r at n2 n3 n4 hr1 hr2 ⊢
          by_cases c3 : isD (chr T r.1) = true
          · obtain ⟨x, σ3, m1, m2, m3⟩ := n2 c3
            rw [if_pos c3]
            exact bad x σ3 _ m1 m2 m3 hr1
          · rw [if_neg c3]
            by_cases c4 : r.2 < lsI c i ∨ msI c i < r.2
            · obtain ⟨x, σ3, m1, m2, m3⟩ := n3 c3 c4
              rw [if_pos c4]
              exact bad x σ3 _ m1 m2 m3 (by omega)
            · obtain ⟨σ3, m1, m2, m3⟩ := n4 c3 c4
              obtain ⟨t1, t2⟩ := m3.to (c := c) (R := R) hiN (nI r.2)
              obtain ⟨σ5, l1, l2, l3⟩ := look_m (N := N) t2 hT hN
              have hbr := chr_lt hT (nx T r.1)
              rw [if_neg c4, m1, bnd, st_to m3.1.1 (by omega), bnd, mq t2.1.1 t2.2.2.1, bnd, if_pos rfl, d60 t2.1.1, bnd, l1, bnd, sp_i hbr hN, bnd, bit_or M (by omega) i (by omega)]
              obtain ⟨m', rfl⟩ : ∃ m', m = m' + 1 := by
                cases m with
                | zero =>
                  exfalso
                  have := (cntB_le c _ u2).1
                  omega
                | succ m' => exact ⟨m', rfl⟩
              rw [pItL_nx]
              refine it45_m hT hN hR (m' + 1) (k + 1) (nx T r.1) _ fu _ σ5 (by omega) (by omega) u2 (by omega) (nx_nx T r.1) l3 (fun j hj => ?_) (f.tr ((s3.tr m2).pm.tr (t1.tr l2.pm)))
              rw [l2.i (by cases c <;> rfl)]
              unfold upN
              by_cases e : j = i
              · rw [if_pos e, e, mi_eq]
              · rw [if_neg e, mi_ne _ _ (by omega), m2.i (by cases c <;> rfl), mi_ne _ _ (by omega)]
                exact hv j hj
        · obtain ⟨x, σ3, m1, m2, m3⟩ := n1 c2
          rw [if_neg c2]
          exact bad x σ3 _ m1 m2 m3 (nx_le (by omega))
theorem it3_m (hT : txOK T) (hN : 300 ≤ N) {R : Nat} (hR : R + itC c ≤ (if c = true then 3 else 30)) {σ0 : Me} : ∀ (m k fu : Nat) (σ : Me), k + m = itC c → m < fu → Ps B L a b T σ p g → (∀ j, j < k → mi σ (toI c) (R + j) = nI (usI c j)) → Fr (miX c R) σ0 σ → ParJ B L a b T σ0 g c R (pIt T c p) (fc12_readItems_3 N fu (some 60) (nI (kcI c)) (some (toI c)) (nI R) (some (stI_ c)) (nI k) σ)
  | _, _, 0, _, _, h0, _, _, _ => absurd h0 (Nat.not_lt_zero _)
  | 0, k, fu + 1, σ, hk, _, h, hv, f => by
    have h5 := itC_le c
    obtain ⟨σ1, q1, q2, q3⟩ := look_m (N := N) h hT hN
    have hb := chr_lt hT (nx T p)
    have sd : drS (some (stI_ c)) = some (stI_ c) := by cases c <;> rfl
    have sl : fSr_length N (stI_ c) σ = some (nI (itC c), σ) := by
      cases c
      · exact w_o.2.1
      · exact w_i.2.1
    rw [fc12_readItems_3, sd, bnd, sl, bnd, if_pos (nI_le (by omega) (by omega)), d60 h.1.1, bnd, q1, bnd, sp_i hb hN, bnd]
    unfold pIt
    rw [pItL_nx, y0]
    exact it45_m hT hN hR (itC c + 1) 0 (nx T p) 0 N _ σ1 (by omega) (by omega) (by cases c <;> decide) rfl (nx_nx T p) q3 (fun j hj => by rw [q2.i (by cases c <;> rfl)]; exact hv j (by omega)) (f.tr q2.pm)
  | m + 1, k, fu + 1, σ, hk, h0, h, hv, f => by
    have h5 := itC_le c
    have sd : drS (some (stI_ c)) = some (stI_ c) := by cases c <;> rfl
    have sl : fSr_length N (stI_ c) σ = some (nI (itC c), σ) := by
      cases c
      · exact w_o.2.1
      · exact w_i.2.1
    obtain ⟨t1, t2⟩ := h.to (c := c) (R := R) (show k < itC c by omega) (nI (usI c k))
    rw [fc12_readItems_3, sd, bnd, sl, bnd, if_neg (nI_ge (by omega) (by omega)), usual_m (by omega), bnd, st_to h.1.1 (by omega), bnd, nI_1]
    refine it3_m hT hN hR m (k + 1) fu _ (by omega) (by omega) t2 (fun j hj => ?_) (f.tr t1)
    by_cases e : j = k
    · rw [e, mi_eq]
    · rw [mi_ne _ _ (by omega)]; exact hv j (by omega)
theorem items_m (hT : txOK T) (hN : 300 ≤ N) (h : Ps B L a b T σ p g) {R : Nat} (hR : R + itC c ≤ (if c = true then 3 else 30)) : ParJ B L a b T σ g c R (pIt T c p) (fc12_readItems N 60 (nI (kcI c)) (some (toI c)) (nI R) (some (stI_ c)) σ) :=
  it3_m hT hN hR (itC c) 0 N σ (by omega) (by have := itC_le c; omega) h (fun j hj => absurd hj (Nat.not_lt_zero _)) (Fr.rf _ _)
end MQ2
