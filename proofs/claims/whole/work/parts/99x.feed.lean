/-! the tape fed -/
def bU (x : Int32) (s : Nat) : Nat := x.toBitVec.toNat / 2 ^ s % 256
theorem bU_lt (x : Int32) (s : Nat) : bU x s < 256 := Nat.mod_lt _ (by decide)
theorem bv_u (v : BitVec 32) (s : Nat) : ((v >>> s) &&& 255#32).toNat = v.toNat / 2 ^ s % 256 := by
  rw [BitVec.toNat_and, BitVec.toNat_ushiftRight, Nat.shiftRight_eq_div_pow]
  exact Nat.and_two_pow_sub_one_eq_mod _ 8
theorem bv_255 (i : Nat) (h : 8 ≤ i) : (255#32).getLsbD i = false := by
  rw [BitVec.getLsbD_ofNat]
  by_cases c : i < 32
  · have : ∀ i, i < 32 → 8 ≤ i → (decide (i < 32) && Nat.testBit 255 i) = false := by decide +kernel
    exact this i c h
  · simp [c]
theorem bv_s (v : BitVec 32) {s : Nat} (hs : s ≤ 24) : (v.sshiftRight s) &&& 255#32 = (v >>> s) &&& 255#32 := by
  apply BitVec.eq_of_getLsbD_eq
  intro i hi
  rw [BitVec.getLsbD_and, BitVec.getLsbD_and]
  by_cases h8 : i < 8
  · have h1 : (v.sshiftRight s).getLsbD i = (v >>> s).getLsbD i := by
      rw [BitVec.getLsbD_sshiftRight, BitVec.getLsbD_ushiftRight]
      have e1 : ¬ 32 ≤ i := by omega
      have e2 : s + i < 32 := by omega
      simp [e1, e2]
    rw [h1]
  · rw [bv_255 i (by omega), Bool.and_false, Bool.and_false]
theorem sh4 : ∀ s, s = 24 ∨ s = 16 ∨ s = 8 ∨ s = 0 → ((nI s &&& 31).toBitVec.smod 32 = BitVec.ofNat 32 s) ∧ ((nI s).toUInt32 &&& Int32.toUInt32 31) = UInt32.ofNat s ∧ s ≤ 24 := by
  rintro s (rfl | rfl | rfl | rfl) <;> decide +kernel
theorem mdV (x : Int32) {s : Nat} (hs : s = 24 ∨ s = 16 ∨ s = 8 ∨ s = 0) : (x >>> (nI s &&& 31)).toBitVec = x.toBitVec.sshiftRight s := by
  obtain ⟨h1, -, h3⟩ := sh4 s hs
  show x.toBitVec.sshiftRight' ((nI s &&& 31).toBitVec.smod 32) = _
  rw [h1, BitVec.sshiftRight_eq', BitVec.toNat_ofNat, Nat.mod_eq_of_lt (by omega)]
theorem mdE (x : Int32) {s : Nat} (hs : s = 24 ∨ s = 16 ∨ s = 8 ∨ s = 0) : ((x >>> (nI s &&& 31)) &&& (255 : Int32)) = nI (bU x s) := by
  apply Int32.toBitVec_inj.1
  show (x >>> (nI s &&& 31)).toBitVec &&& 255#32 = BitVec.ofNat 32 (bU x s)
  rw [mdV x hs, bv_s _ (sh4 s hs).2.2]
  apply BitVec.eq_of_toNat_eq
  rw [bv_u, BitVec.toNat_ofNat, Nat.mod_eq_of_lt (Nat.lt_of_lt_of_le (bU_lt x s) (by decide))]
  rfl
theorem clE (x : Int32) {s : Nat} (hs : s = 24 ∨ s = 16 ∨ s = 8 ∨ s = 0) : ((((x).toUInt32 >>> ((nI s).toUInt32 &&& Int32.toUInt32 31)).toInt32) &&& (255 : Int32)) = nI (bU x s) := by
  obtain ⟨-, h2, h3⟩ := sh4 s hs
  rw [h2]
  apply Int32.toBitVec_inj.1
  have e : ((x.toUInt32 >>> UInt32.ofNat s).toInt32).toBitVec = x.toBitVec >>> s := by
    show (x.toUInt32 >>> UInt32.ofNat s).toBitVec = _
    rw [UInt32.toBitVec_shiftRight]
    have e2 : (UInt32.ofNat s).toBitVec % 32 = BitVec.ofNat 32 s := by
      rcases hs with rfl | rfl | rfl | rfl <;> decide
    rw [e2]
    show x.toBitVec >>> BitVec.ofNat 32 s = _
    rw [BitVec.ushiftRight_eq', BitVec.toNat_ofNat, Nat.mod_eq_of_lt (by omega)]
  show ((x.toUInt32 >>> UInt32.ofNat s).toInt32).toBitVec &&& 255#32 = BitVec.ofNat 32 (bU x s)
  rw [e]
  apply BitVec.eq_of_toNat_eq
  rw [bv_u, BitVec.toNat_ofNat, Nat.mod_eq_of_lt (Nat.lt_of_lt_of_le (bU_lt x s) (by decide))]
  rfl
theorem cut8 (x : Int32) : Int32.toInt8 (x &&& (255 : Int32)) = Int32.toInt8 x := by
  apply Int8.toBitVec_inj.1
  rw [Int32.toBitVec_toInt8, Int32.toBitVec_toInt8, Int32.toBitVec_and, BitVec.signExtend_eq_setWidth_of_le _ (by decide), BitVec.signExtend_eq_setWidth_of_le _ (by decide)]
  show (x.toBitVec &&& 255#32).setWidth 8 = x.toBitVec.setWidth 8
  apply BitVec.eq_of_getLsbD_eq
  intro i hi
  rw [BitVec.getLsbD_setWidth, BitVec.getLsbD_setWidth, BitVec.getLsbD_and]
  have : ∀ i, i < 8 → (255#32).getLsbD i = true := by decide +kernel
  rw [this i hi, Bool.and_true]
theorem mdB (x : Int32) {s : Nat} (hs : s = 24 ∨ s = 16 ∨ s = 8 ∨ s = 0) : Int8.toInt32 (Int32.toInt8 (x >>> (nI s &&& 31))) = sb (bU x s) := by
  rw [← cut8, mdE x hs]; rfl
def apB (T : Tx) (b : Nat) : Tx := if b = 0 then T else (T.1 + 1, fun i => if i = T.1 then b else T.2 i)
def ap4 (T : Tx) (x : Int32) : Tx := apB (apB (apB (apB T (bU x 24)) (bU x 16)) (bU x 8)) (bU x 0)
def c1B (b : Nat) : Nat := if b = 0 then 0 else 1
def c4B (x : Int32) : Nat := c1B (bU x 24) + c1B (bU x 16) + c1B (bU x 8) + c1B (bU x 0)
theorem apB_1 (T : Tx) (b : Nat) : (apB T b).1 = T.1 + c1B b := by unfold apB c1B; split <;> rfl
theorem ap4_1 (T : Tx) (x : Int32) : (ap4 T x).1 = T.1 + c4B x := by unfold ap4 c4B; rw [apB_1, apB_1, apB_1, apB_1]; omega
theorem c4B_le (x : Int32) : c4B x ≤ 4 := by unfold c4B c1B; repeat' split
                                             all_goals omega
theorem apB_ok {T : Tx} (hT : txOK T) {b : Nat} (hb : b < 256) (hl : (apB T b).1 ≤ 240) : txOK (apB T b) := by
  unfold apB at hl ⊢
  by_cases c : b = 0
  · rw [if_pos c]; exact hT
  · rw [if_neg c] at hl ⊢
    refine ⟨hl, fun k hk => ?_⟩
    show 0 < (if k = T.1 then b else T.2 k) ∧ (if k = T.1 then b else T.2 k) < 256
    by_cases e : k = T.1
    · rw [if_pos e]; omega
    · rw [if_neg e]; exact hT.2 k (by have : k < T.1 + 1 := hk; omega)
theorem ap4_ok {T : Tx} (hT : txOK T) {x : Int32} (hl : (ap4 T x).1 ≤ 240) : txOK (ap4 T x) := by
  have e1 := apB_1 T (bU x 24)
  have e2 := apB_1 (apB T (bU x 24)) (bU x 16)
  have e3 := apB_1 (apB (apB T (bU x 24)) (bU x 16)) (bU x 8)
  have e4 := apB_1 (apB (apB (apB T (bU x 24)) (bU x 16)) (bU x 8)) (bU x 0)
  have hl' : (apB (apB (apB (apB T (bU x 24)) (bU x 16)) (bU x 8)) (bU x 0)).1 ≤ 240 := hl
  exact apB_ok (apB_ok (apB_ok (apB_ok hT (bU_lt _ _) (by omega)) (bU_lt _ _) (by omega)) (bU_lt _ _) (by omega)) (bU_lt _ _) (by omega)
def tpX : Nat → Nat → Bool := fun a j => (a == 1 && j == 1) || a == 2
theorem tpX_f : Sf tpX := by
  have h : ∀ q ∈ rfL, tpX q.1.1 q.1.2 = false := by decide +kernel
  exact h
def tmX : Nat → Nat → Bool := fun a j => (a == 60 && (j == 0 || j == 6)) || a == 61
theorem tmX_f : Sf tmX := by
  have h : ∀ q ∈ rfL, tmX q.1.1 q.1.2 = false := by decide +kernel
  exact h
theorem narB : ∀ b, b < 256 → vp_nar .byte (sb b) = sb b := nar_by
section FD
variable {N : Nat} {σ : Me}
theorem sgn_c (x : Int32) (hN : 300 ≤ N) : fc10_signsIn N x σ = some (nI (c4B x), σ) := by
  obtain ⟨M, rfl⟩ : ∃ M, N = M + 5 := ⟨N - 5, by omega⟩
  have st : ∀ (s fu c : Nat) (hs : s = 24 ∨ s = 16 ∨ s = 8 ∨ s = 0), fc10_signsIn_5 (M + 5) (fu + 1) x (nI c) (nI s) σ = fc10_signsIn_5 (M + 5) fu x (nI (c + c1B (bU x s))) (nI s + (-8 : Int32)) σ := fun s fu c hs => by
    have p0 := nI_pos (n := s) (by omega)
    rw [fc10_signsIn_5, if_neg p0, clE x hs]
    unfold c1B fc10_signsIn_22
    by_cases e : bU x s = 0
    · rw [if_pos ((nI_ze (Nat.lt_of_lt_of_le (bU_lt x s) (by decide))).mpr e), if_pos e]
      rfl
    · rw [if_neg (fun w => e ((nI_ze (Nat.lt_of_lt_of_le (bU_lt x s) (by decide))).mp w)), if_neg e, nI_1]
  have e : fc10_signsIn (M + 5) x σ = fc10_signsIn_5 (M + 5) (M + 4 + 1) x (nI 0) (nI 24) σ := rfl
  rw [e, st 24 _ 0 (.inl rfl), show nI 24 + (-8 : Int32) = nI 16 from by decide, st 16 (M + 3) _ (.inr (.inl rfl)), show nI 16 + (-8 : Int32) = nI 8 from by decide, st 8 (M + 2) _ (.inr (.inr (.inl rfl))), show nI 8 + (-8 : Int32) = nI 0 from by decide, st 0 (M + 1) _ (.inr (.inr (.inr rfl))), show nI 0 + (-8 : Int32) = -8 from by decide, fc10_signsIn_5, if_pos (by decide)]
  unfold c4B
  rw [Nat.zero_add]
theorem sgn_m (x : Int32) (hN : 300 ≤ N) : fc12_bytesIn N x σ = some (nI (c4B x), σ) := by
  obtain ⟨M, rfl⟩ : ∃ M, N = M + 5 := ⟨N - 5, by omega⟩
  have st : ∀ (s fu c : Nat) (hs : s = 24 ∨ s = 16 ∨ s = 8 ∨ s = 0), fc12_bytesIn_5 (M + 5) (fu + 1) x (nI c) (nI s) σ = fc12_bytesIn_5 (M + 5) fu x (nI (c + c1B (bU x s))) (nI s + (-8 : Int32)) σ := fun s fu c hs => by
    have p0 := nI_pos (n := s) (by omega)
    rw [fc12_bytesIn_5, if_neg p0, mdE x hs]
    unfold c1B fc12_bytesIn_25
    by_cases e : bU x s = 0
    · rw [if_pos ((nI_ze (Nat.lt_of_lt_of_le (bU_lt x s) (by decide))).mpr e), if_pos e, y0, nI_add]
    · rw [if_neg (fun w => e ((nI_ze (Nat.lt_of_lt_of_le (bU_lt x s) (by decide))).mp w)), if_neg e, nI_1]
  have e : fc12_bytesIn (M + 5) x σ = fc12_bytesIn_5 (M + 5) (M + 4 + 1) x (nI 0) (nI 24) σ := rfl
  rw [e, st 24 _ 0 (.inl rfl), show nI 24 + (-8 : Int32) = nI 16 from by decide, st 16 (M + 3) _ (.inr (.inl rfl)), show nI 16 + (-8 : Int32) = nI 8 from by decide, st 8 (M + 2) _ (.inr (.inr (.inl rfl))), show nI 8 + (-8 : Int32) = nI 0 from by decide, st 0 (M + 1) _ (.inr (.inr (.inr rfl))), show nI 0 + (-8 : Int32) = -8 from by decide, fc12_bytesIn_5, if_pos (by decide)]
  unfold c4B
  rw [Nat.zero_add]
theorem put1_c (x : Int32) {s fu : Nat} (hs : s = 24 ∨ s = 16 ∨ s = 8 ∨ s = 0) (h : Sh σ) {T : Tx} (ht : TpC σ T) (hl : (apB T (bU x s)).1 ≤ 240) : ∃ σ' : Me, fc10_put_3 N (fu + 1) (some 1) x (nI s) σ = fc10_put_3 N fu (some 1) x (nI s + (-8 : Int32)) σ' ∧ Sh σ' ∧ Fr tpX σ σ' ∧ TpC σ' (apB T (bU x s)) := by
  have p0 := nI_pos (n := s) (by omega)
  have hb := bU_lt x s
  rw [fc10_put_3, if_neg p0, clE x hs]
  unfold apB at hl ⊢
  by_cases e : bU x s = 0
  · rw [if_pos ((nI_ze (by omega)).mpr e), if_pos e]
    exact ⟨σ, rfl, h, Fr.rf _ _, ht⟩
  · rw [if_neg e] at hl
    have hl : T.1 + 1 ≤ 240 := hl
    have p1 : pI σ 10 1 (some 1) (nI T.1 + (1 : Int32)) = some (setI σ 1 1 (nI (T.1 + 1))) := by simp only [pI, PR h, bnd, nI_1]
    have st : stB (setI σ 1 1 (nI (T.1 + 1))) (some 2) (nI T.1) (Int8.toInt32 (Int32.toInt8 (nI (bU x s)))) = some (setI (setI σ 1 1 (nI (T.1 + 1))) 2 T.1 (sb (bU x s))) := by
      unfold stB
      rw [arr_setI, A2 h _ (by omega), bnd, nI_clamp (by omega)]
      show some (setI _ 2 T.1 (vp_nar .byte (sb (bU x s)))) = _
      rw [narB _ hb]
    rw [if_neg (fun w => e ((nI_ze (by omega)).mp w)), if_neg e, tq1 h ht, bnd, if_neg (show ¬ (240 : Int32) ≤ nI T.1 from nI_ge (show T.1 < 240 by omega) (by decide)), tq0 h, bnd, bnd, p1, bnd, st, bnd]
    refine ⟨_, rfl, h, fr_I rfl (fr_I rfl (Fr.rf _ _)), by rw [mi_ne _ _ (by omega), mi_eq], fun k hk => ?_⟩
    show mi _ 2 k = sb (if k = T.1 then bU x s else T.2 k)
    by_cases ek : k = T.1
    · rw [if_pos ek, ek, mi_eq]
    · rw [if_neg ek, mi_ne _ _ (by omega), mi_ne _ _ (by omega)]
      exact ht.2 k (by have : k < T.1 + 1 := hk; omega)
theorem put_c (x : Int32) (h : Sh σ) {T : Tx} (ht : TpC σ T) (hl : (ap4 T x).1 ≤ 240) (hN : 300 ≤ N) : ∃ σ' : Me, fc10_put N 1 x σ = some ((), σ') ∧ Sh σ' ∧ Fr tpX σ σ' ∧ TpC σ' (ap4 T x) := by
  obtain ⟨M, rfl⟩ : ∃ M, N = M + 5 := ⟨N - 5, by omega⟩
  have e1 := apB_1 T (bU x 24)
  have e2 := apB_1 (apB T (bU x 24)) (bU x 16)
  have e3 := apB_1 (apB (apB T (bU x 24)) (bU x 16)) (bU x 8)
  have e4 := apB_1 (apB (apB (apB T (bU x 24)) (bU x 16)) (bU x 8)) (bU x 0)
  have hl' : (apB (apB (apB (apB T (bU x 24)) (bU x 16)) (bU x 8)) (bU x 0)).1 ≤ 240 := hl
  obtain ⟨σ1, a1, a2, a3, a4⟩ := put1_c (N := M + 5) x (fu := M + 4) (.inl rfl) h ht (by omega)
  obtain ⟨σ2, b1, b2, b3, b4⟩ := put1_c (N := M + 5) x (fu := M + 3) (.inr (.inl rfl)) a2 a4 (by omega)
  obtain ⟨σ3, c1, c2, c3, c4⟩ := put1_c (N := M + 5) x (fu := M + 2) (.inr (.inr (.inl rfl))) b2 b4 (by omega)
  obtain ⟨σ4, d1, d2, d3, d4⟩ := put1_c (N := M + 5) x (fu := M + 1) (.inr (.inr (.inr rfl))) c2 c4 (by omega)
  have e : fc10_put (M + 5) 1 x σ = fc10_put_3 (M + 5) (M + 4 + 1) (some 1) x (nI 24) σ := rfl
  refine ⟨σ4, ?_, d2, ((a3.tr b3).tr c3).tr d3, d4⟩
  rw [e, a1, show nI 24 + (-8 : Int32) = nI 16 from by decide, b1, show nI 16 + (-8 : Int32) = nI 8 from by decide, c1, show nI 8 + (-8 : Int32) = nI 0 from by decide, d1, show nI 0 + (-8 : Int32) = -8 from by decide, fc10_put_3, if_pos (by decide)]
theorem put1_m (x : Int32) {s fu : Nat} (hs : s = 24 ∨ s = 16 ∨ s = 8 ∨ s = 0) (h : Sh σ) {T : Tx} (ht : TpM σ T) (hl : (apB T (bU x s)).1 ≤ 240) : ∃ σ' : Me, fc12_put_3 N (fu + 1) (some 60) x (nI s) σ = fc12_put_3 N fu (some 60) x (nI s + (-8 : Int32)) σ' ∧ Sh σ' ∧ Fr tmX σ σ' ∧ TpM σ' (apB T (bU x s)) := by
  have p0 := nI_pos (n := s) (by omega)
  have hb := bU_lt x s
  rw [fc12_put_3, if_neg p0, mdE x hs]
  unfold apB at hl ⊢
  by_cases e : bU x s = 0
  · rw [if_pos ((nI_ze (by omega)).mpr e), if_pos e]
    exact ⟨σ, rfl, h, Fr.rf _ _, ht⟩
  · rw [if_neg e] at hl
    have hl : T.1 + 1 ≤ 240 := hl
    have q1 : qR σ 12 1 (some 60) = some (some 61) := by simp only [qR, PN h, bnd]
    have st : stB σ (some 61) (nI T.1) (sb (bU x s)) = some (setI σ 61 T.1 (sb (bU x s))) := by
      unfold stB
      rw [A61 h _ (by omega), bnd, nI_clamp (by omega), narB _ hb]
    have h1 : Sh (setI σ 61 T.1 (sb (bU x s))) := h
    have e6 : mi (setI σ 61 T.1 (sb (bU x s))) 60 6 = nI T.1 := by rw [mi_ne _ _ (by omega)]; exact ht.1
    rw [if_neg (fun w => e ((nI_ze (by omega)).mp w)), if_neg e, q1, bnd, mq h ht.1, bnd, mdB x hs, st, bnd, mq h1 e6, bnd, nI_1, mp h1, bnd]
    refine ⟨_, rfl, h, fr_I rfl (fr_I rfl (Fr.rf _ _)), mi_eq _ _ _ _, fun k hk => ?_⟩
    show mi _ 61 k = sb (if k = T.1 then bU x s else T.2 k)
    by_cases ek : k = T.1
    · rw [if_pos ek, ek, mi_ne _ _ (by omega), mi_eq]
    · rw [if_neg ek, mi_ne _ _ (by omega), mi_ne _ _ (by omega)]
      exact ht.2 k (by have : k < T.1 + 1 := hk; omega)
theorem put_m (x : Int32) (h : Sh σ) {T : Tx} (ht : TpM σ T) (hl : (ap4 T x).1 ≤ 240) (hN : 300 ≤ N) : ∃ σ' : Me, fc12_put N 60 x σ = some ((), σ') ∧ Sh σ' ∧ Fr tmX σ σ' ∧ TpM σ' (ap4 T x) := by
  obtain ⟨M, rfl⟩ : ∃ M, N = M + 5 := ⟨N - 5, by omega⟩
  have e1 := apB_1 T (bU x 24)
  have e2 := apB_1 (apB T (bU x 24)) (bU x 16)
  have e3 := apB_1 (apB (apB T (bU x 24)) (bU x 16)) (bU x 8)
  have e4 := apB_1 (apB (apB (apB T (bU x 24)) (bU x 16)) (bU x 8)) (bU x 0)
  have hl' : (apB (apB (apB (apB T (bU x 24)) (bU x 16)) (bU x 8)) (bU x 0)).1 ≤ 240 := hl
  obtain ⟨σ1, a1, a2, a3, a4⟩ := put1_m (N := M + 5) x (fu := M + 4) (.inl rfl) h ht (by omega)
  obtain ⟨σ2, b1, b2, b3, b4⟩ := put1_m (N := M + 5) x (fu := M + 3) (.inr (.inl rfl)) a2 a4 (by omega)
  obtain ⟨σ3, c1, c2, c3, c4⟩ := put1_m (N := M + 5) x (fu := M + 2) (.inr (.inr (.inl rfl))) b2 b4 (by omega)
  obtain ⟨σ4, d1, d2, d3, d4⟩ := put1_m (N := M + 5) x (fu := M + 1) (.inr (.inr (.inr rfl))) c2 c4 (by omega)
  have e : fc12_put (M + 5) 60 x σ = fc12_put_3 (M + 5) (M + 4 + 1) (some 60) x (nI 24) σ := rfl
  refine ⟨σ4, ?_, d2, ((a3.tr b3).tr c3).tr d3, d4⟩
  rw [e, a1, show nI 24 + (-8 : Int32) = nI 16 from by decide, b1, show nI 16 + (-8 : Int32) = nI 8 from by decide, c1, show nI 8 + (-8 : Int32) = nI 0 from by decide, d1, show nI 0 + (-8 : Int32) = -8 from by decide, fc12_put_3, if_pos (by decide)]
end FD
